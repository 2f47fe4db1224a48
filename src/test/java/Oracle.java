import java.util.ArrayDeque;
import java.util.ArrayList;
import java.util.Arrays;
import java.util.Deque;
import java.util.List;
import java.util.regex.Matcher;
import java.util.regex.Pattern;

/**
 * The document written down a second time, by other means than the class under
 * test uses (classes for KINDS, sets for WAYS, texts split from the right), so
 * that the two can be held against one another.
 */
final class Oracle {
    static final int LOW = -1000000000;

    private static final class Refused extends RuntimeException {
        private static final long serialVersionUID = 1L;
        final int by;

        Refused(int by) {
            super(null, null, false, false);
            this.by = by;
        }
    }

    // ---- the world

    private static class Crumb {
        int k, m, field, at, heard;
        World w;

        int kind() { return 0; }

        int steps() { return 1; }

        int weight() { return 10 + m; }

        boolean home() { return at == w.fields[field]; }

        boolean together() {
            for (Crumb c : w.bits) if (c != this && c.field == field && c.at == at) return true;
            return false;
        }

        int walks(int x, List<Integer> t) { t.add(10); return x + k; }

        int warms(int x, List<Integer> t) { t.add(11); return walks(x, t) * 2; }

        int sprouts(int x, List<Integer> t) { t.add(12); return warms(x, t) - m; }

        int parts(int x, List<Integer> t) {
            t.add(13);
            if (m == k) throw new Refused(6);
            return x / (m - k);
        }
    }

    private static class Crust extends Crumb {
        @Override int kind() { return 1; }

        @Override int steps() { return w.day % 2 == 0 ? super.steps() : 0; }

        @Override int weight() { return super.weight() + heard; }

        @Override int walks(int x, List<Integer> t) { t.add(20); return super.walks(x, t) - 4; }

        @Override int parts(int x, List<Integer> t) {
            t.add(21);
            int left = super.parts(x, t);
            return left + warms(1, t);
        }
    }

    private static class Office extends Crumb {
        @Override int kind() { return 2; }

        @Override int steps() { return (w.day - m) % 7 == 0 ? 2 * super.steps() : 0; }

        @Override int weight() { return heard >= 5 ? super.weight() : 0; }

        @Override int warms(int x, List<Integer> t) { t.add(30); return -super.warms(x, t); }
    }

    private static final class Pocket extends Crumb {
        @Override int kind() { return 3; }

        @Override int steps() { return together() || m >= 7 ? super.steps() : 0; }

        @Override int weight() { return super.weight() / 2; }

        @Override int sprouts(int x, List<Integer> t) { t.add(40); return super.sprouts(x / 2, t); }
    }

    private static final class Heel extends Crust {
        @Override int kind() { return 4; }

        @Override int steps() { return super.steps() + (w.day % 3 == 0 ? 1 : 0); }

        @Override int weight() { return super.weight() + 5; }

        @Override int walks(int x, List<Integer> t) { t.add(50); return super.walks(x, t) * 3; }

        @Override int sprouts(int x, List<Integer> t) { t.add(51); return super.sprouts(x, t) ^ k; }
    }

    private static final class Envelope extends Office {
        @Override int kind() { return 5; }

        @Override int steps() { return super.steps() + 1; }

        @Override int weight() { return 2 * super.weight() + m; }

        @Override int warms(int x, List<Integer> t) { t.add(60); return super.warms(x + 1, t); }
    }

    private static final class Kept extends Crumb {
        @Override int kind() { return 6; }

        @Override int steps() { return m == 9 ? super.steps() : 0; }

        @Override int weight() { return 3 * super.weight(); }

        @Override int walks(int x, List<Integer> t) { t.add(70); return 9; }

        @Override int warms(int x, List<Integer> t) { t.add(71); return super.warms(x, t) + m; }
    }

    private static Crumb made(World w, int k, int km, int field, int at, int heard) {
        Crumb c;
        switch (km / 10) {
            case 0: c = new Crumb(); break;
            case 1: c = new Crust(); break;
            case 2: c = new Office(); break;
            case 3: c = new Pocket(); break;
            case 4: c = new Heel(); break;
            case 5: c = new Envelope(); break;
            default: c = new Kept(); break;
        }
        c.w = w;
        c.k = k;
        c.m = km % 10;
        c.field = field;
        c.at = at;
        c.heard = heard;
        return c;
    }

    private static final class World {
        final List<Crumb> bits = new ArrayList<>();
        final int[] fields = {0, 1, 2, 3};
        final boolean[][] ways = new boolean[10][10];
        final String[] texts = new String[2];
        String tape = "";
        List<Integer> waiting = new ArrayList<>();
        int day = 0;
        int z = 1;

        World copy() {
            World o = new World();
            for (Crumb c : bits) o.bits.add(made(o, c.k, 10 * c.kind() + c.m, c.field, c.at, c.heard));
            System.arraycopy(fields, 0, o.fields, 0, 4);
            for (int i = 0; i < 10; i++) o.ways[i] = ways[i].clone();
            o.texts[0] = texts[0];
            o.texts[1] = texts[1];
            o.tape = tape;
            o.waiting = new ArrayList<>(waiting);
            o.day = day;
            o.z = z;
            return o;
        }

        /** How far each PLACE is from one, by a search in waves; -1 where there is no WAY. */
        int[] waves(int from) {
            int[] d = new int[10];
            Arrays.fill(d, -1);
            Deque<Integer> q = new ArrayDeque<>();
            d[from] = 0;
            q.add(from);
            while (!q.isEmpty()) {
                int p = q.remove();
                for (int o = 0; o < 10; o++) {
                    if (ways[p][o] && d[o] < 0) {
                        d[o] = d[p] + 1;
                        q.add(o);
                    }
                }
            }
            return d;
        }

        int gives(int use, int a, int b, int c) {
            int v = texts[use] == null ? a : value(texts[use], use == 0 ? "sdf" : "why", new int[] {a, b, c});
            return Math.max(0, Math.min(use == 0 ? 3 : 99, v));
        }

        int stepsOf(Crumb c) {
            return gives(0, c.steps(), day % 7, Math.max(0, waves(fields[c.field])[c.at]));
        }

        int worthOf(Crumb c) { return gives(1, c.weight(), c.heard, day % 10); }

        int warmthOf(Crumb c) {
            int d = waves(fields[c.field])[c.at];
            return d < 0 ? 0 : 9 - d;
        }

        World after(int n) {
            World o = copy();
            for (int i = 0; i < n; i++) o.passDay();
            return o;
        }

        void passDay() {
            int[] steps = new int[bits.size()];
            for (Crumb c : bits) steps[c.k] = stepsOf(c);
            for (Crumb c : bits) {
                int[] d = waves(fields[c.field]);
                while (steps[c.k]-- > 0 && d[c.at] > 0) {
                    int to = 0;
                    while (!(ways[c.at][to] && d[to] == d[c.at] - 1)) to++;
                    c.at = to;
                }
            }
            day++;
        }

        int draw() {
            z = z * 1103515245 + 12345;
            return z >>> 8;
        }

        void looseDay() {
            if (!bits.isEmpty()) {
                int one = draw();
                int two = draw();
                int three = draw();
                Crumb c = bits.get(one % bits.size());
                c.heard = two % 10;
                if (three % 8 == 0) c.at = draw() % 10;
            }
            passDay();
        }

        int homes() {
            int s = 0;
            for (Crumb c : bits) if (c.home()) s += 1 << c.k;
            return s;
        }

        int gets(int field) {
            int s = 0;
            for (Crumb c : bits) if (c.field == field && c.home()) s += worthOf(c);
            return s;
        }
    }

    // ---- texts

    /** Splits a TEXT at the sign that is worked out last. */
    static int value(String t, String names, int[] values) {
        String[] ranks = {"|", "&", "<=>", "+-", "*/%"};
        for (String signs : ranks) {
            int deep = 0;
            for (int i = t.length() - 1; i > 0; i--) {
                char c = t.charAt(i);
                if (c == ')') deep++;
                if (c == '(') deep--;
                if (deep == 0 && signs.indexOf(c) >= 0) {
                    int l = value(t.substring(0, i), names, values);
                    int r = value(t.substring(i + 1), names, values);
                    return joined(c, l, r);
                }
            }
        }
        char c = t.charAt(0);
        if (c == '!') return value(t.substring(1), names, values) == 0 ? 1 : 0;
        if (c == '(') return value(t.substring(1, t.length() - 1), names, values);
        if (names.indexOf(c) >= 0) return values[names.indexOf(c)];
        return Integer.parseInt(t);
    }

    private static int joined(char c, int l, int r) {
        switch (c) {
            case '|': return (l == 0 ? 0 : 1) | (r == 0 ? 0 : 1);
            case '&': return (l == 0 ? 0 : 1) & (r == 0 ? 0 : 1);
            case '<': return l < r ? 1 : 0;
            case '=': return l == r ? 1 : 0;
            case '>': return l > r ? 1 : 0;
            case '+': return l + r;
            case '-': return l - r;
            case '*': return l * r;
            case '/': return r == 0 ? 0 : (int) ((long) l / r);
            default: return r == 0 ? 0 : (int) ((long) l % r);
        }
    }

    /** Whether all of t is a TEXT: brackets are taken away from the inside out, each leaving its height. */
    static boolean isText(String t, String names) {
        // Heights 1 .. 6 stand as the letters A .. F, which are no NAMES.
        Pattern inner = Pattern.compile("\\(([^()]*)\\)");
        String s = t;
        if (s.matches(".*[A-Z].*")) return false;
        while (true) {
            Matcher m = inner.matcher(s);
            if (!m.find()) break;
            int h = height(m.group(1), names);
            if (h < 0 || h >= 5) return false;
            s = s.substring(0, m.start()) + (char) ('A' + h) + s.substring(m.end());
        }
        int h = height(s, names);
        return h >= 0 && h <= 5;
    }

    /** The most that are open at once in a TEXT without brackets; -1 if it is none. */
    private static int height(String s, String names) {
        String q = "!*(?:[0-9]{1,4}|[" + names + "A-F])";
        String p = q + "(?:[*/%]" + q + ")*";
        String sum = p + "(?:[-+]" + p + ")*";
        String b = sum + "(?:[<=>]" + sum + ")?";
        String a = b + "(?:&" + b + ")*";
        String all = a + "(?:[|]" + a + ")*";
        if (!s.matches("(?s)" + all)) return -1;
        int most = 0;
        Matcher m = Pattern.compile(q).matcher(s);
        while (m.find()) {
            String g = m.group();
            int bangs = g.lastIndexOf('!') + 1;
            char last = g.charAt(g.length() - 1);
            most = Math.max(most, bangs + (last >= 'A' && last <= 'F' ? last - 'A' + 1 : 0));
        }
        return most;
    }

    /** Whether some TEXT begins so: a number or nothing more, then brackets. */
    private static boolean begins(String t, String names) {
        for (String more : new String[] {"", "0"}) {
            String s = t + more;
            for (int i = 0; i <= 5; i++) {
                if (isText(s, names)) return true;
                s += ")";
            }
        }
        return false;
    }

    /** -1 if there is none. */
    static int faultOf(String t, String names) {
        if (isText(t, names)) return -1;
        for (int i = 0; i < t.length(); i++) {
            if (!begins(t.substring(0, i + 1), names)) return i;
        }
        return t.length();
    }

    // ---- the face

    private World w = new World();
    private World kept = null;
    private int images = 0;
    private final int[][] sheets = new int[4][];
    private final int[] sizes = new int[4];
    private List<Integer> trace = new ArrayList<>();
    private final int[] told = new int[7];

    /** Any call by its name. */
    int call(String name, long... a) {
        int[] b = new int[a.length];
        for (int i = 0; i < a.length; i++) b[i] = (int) a[i];
        try {
            return answer(name, a, b);
        } catch (Refused r) {
            told[r.by]++;
            return LOW - r.by;
        }
    }

    private static void in(int v, int least, int most) {
        if (v < least || v > most) throw new Refused(1);
    }

    private Crumb one(int b) {
        in(b, 0, w.bits.size() - 1);
        return w.bits.get(b);
    }

    private int[] row(int s) {
        in(s, 0, 3);
        if (sheets[s] == null) throw new Refused(2);
        return sheets[s];
    }

    private int answer(String name, long[] l, int[] a) {
        int was;
        Crumb c;
        switch (name) {
            case "opens":
                in(a[0], 0, 9);
                in(a[1], 0, 9);
                in(a[2], 0, 1);
                if (a[0] == a[1]) throw new Refused(1);
                was = w.ways[a[0]][a[1]] ? 1 : 0;
                w.ways[a[0]][a[1]] = a[2] == 1;
                w.ways[a[1]][a[0]] = a[2] == 1;
                return was;
            case "field":
                in(a[0], 0, 3);
                in(a[1], 0, 9);
                was = w.fields[a[0]];
                w.fields[a[0]] = a[1];
                return was;
            case "far":
                in(a[0], 0, 9);
                in(a[1], 0, 9);
                was = w.waves(a[0])[a[1]];
                if (was < 0) throw new Refused(2);
                return was;
            case "bit":
                in(a[0], 0, 69);
                in(a[1], 0, 3);
                in(a[2], 0, 9);
                if (w.bits.size() == 8) throw new Refused(4);
                w.bits.add(made(w, w.bits.size(), a[0], a[1], a[2], 0));
                return w.bits.size() - 1;
            case "bitIs":
                in(a[1], 0, 7);
                c = one(a[0]);
                return new int[] {c.kind(), c.m, c.field, c.at, c.heard, w.stepsOf(c), w.worthOf(c), w.warmthOf(c)}[a[1]];
            case "become":
                c = one(a[0]);
                in(a[1], 0, 69);
                w.bits.set(a[0], made(w, a[0], a[1], c.field, c.at, c.heard));
                return c.kind();
            case "as":
                c = one(a[0]);
                in(a[1], 0, 6);
                Class<?>[] kinds = {Crumb.class, Crust.class, Office.class, Pocket.class, Heel.class, Envelope.class, Kept.class};
                if (!kinds[a[1]].isInstance(c)) throw new Refused(5);
                return c.m;
            case "hears":
                c = one(a[0]);
                in(a[1], 0, 9);
                was = c.heard;
                c.heard = a[1];
                return was;
            case "lay":
                c = one(a[0]);
                in(a[1], 0, 9);
                was = c.at;
                c.at = a[1];
                return was;
            default:
                return answerOfTexts(name, l, a);
        }
    }

    private int answerOfTexts(String name, long[] l, int[] a) {
        switch (name) {
            case "feed":
                in(a[1], 1, 8);
                if (w.tape.length() + a[1] > 60) throw new Refused(4);
                for (int i = 0; i < a[1]; i++) w.tape += (char) (l[0] >> 8 * i & 255);
                return w.tape.length();
            case "text":
                in(a[0], 0, 1);
                String read = w.tape;
                w.tape = "";
                int fault = faultOf(read, a[0] == 0 ? "sdf" : "why");
                if (fault >= 0) return -10 - fault;
                w.texts[a[0]] = read;
                return 1;
            case "untell":
                in(a[0], 0, 1);
                int was = w.texts[a[0]] == null ? 0 : 1;
                w.texts[a[0]] = null;
                return was;
            case "law":
                in(a[0], 0, 1);
                return w.gives(a[0], a[1], a[2], a[3]);
            case "days":
            case "loose":
                in(a[0], 1, name.equals("days") ? 60 : 30);
                if (w.day + a[0] > 9999) throw new Refused(3);
                for (int i = 0; i < a[0]; i++) {
                    if (name.equals("days")) w.passDay();
                    else w.looseDay();
                }
                return w.homes();
            case "day":
                in(a[0], 0, 9999);
                was = w.day;
                w.day = a[0];
                return was;
            case "seed":
                was = w.z;
                w.z = a[0];
                return was;
            default:
                return answerOfThoughts(name, a);
        }
    }

    private int answerOfThoughts(String name, int[] a) {
        switch (name) {
            case "then":
                one(a[0]);
                in(a[1], 0, 60);
                return w.after(a[1]).bits.get(a[0]).at;
            case "soonest":
                one(a[0]);
                World o = w.copy();
                for (int i = 0; i <= 60; i++) {
                    if (o.bits.get(a[0]).home()) return i;
                    o.passDay();
                }
                throw new Refused(2);
            case "gets":
                in(a[0], 0, 3);
                in(a[1], 0, 60);
                return w.after(a[1]).gets(a[0]);
            case "carry":
                in(a[0], 0, 3);
                in(a[1], 0, 999);
                in(a[2], 0, 30);
                return carry(a[0], a[1], a[2]);
            case "way":
                in(a[0], 0, 30);
                in(a[1], 0, 1);
                return way(a[0])[a[1]];
            case "odds":
                in(a[0], 0, 60);
                in(a[1], 0, 1);
                if (w.bits.isEmpty()) throw new Refused(3);
                int above = Integer.bitCount(w.after(a[0]).homes());
                int below = w.bits.size();
                if (above == 0) return a[1];
                for (int d = below; d > 1; d--) {
                    while (above % d == 0 && below % d == 0) {
                        above /= d;
                        below /= d;
                    }
                }
                return a[1] == 0 ? above : below;
            case "whose":
                in(a[0], 0, 3);
                one(a[1]);
                in(a[2], 0, 1);
                int set = 0;
                int[] r = row(a[0]);
                for (int f = 0; f < 4; f++) {
                    boolean all = true;
                    for (int i = 0; i < r.length; i++) {
                        World as = w.copy();
                        as.bits.get(a[1]).field = f;
                        as = as.after(i);
                        all &= as.warmthOf(as.bits.get(a[1])) == r[i];
                    }
                    if (all) set += 1 << f;
                }
                return a[2] == 0 ? set : Integer.bitCount(set);
            default:
                return answerOfSheets(name, a);
        }
    }

    private int carry(int field, int v, int n) {
        int best = -1;
        for (int s = 0; s < 1 << w.bits.size(); s++) {
            if (best >= 0 && Integer.bitCount(s) >= Integer.bitCount(best)) continue;
            World o = w.copy();
            for (Crumb c : o.bits) if ((s & 1 << c.k) != 0) c.at = o.fields[c.field];
            if (o.after(n).gets(field) >= v) best = s;
        }
        if (best < 0) throw new Refused(2);
        return best;
    }

    private int[] way(int n) {
        int[] best = null;
        for (int p = 0; p < 10; p++) {
            for (int q = p + 1; q < 10; q++) {
                if (w.ways[p][q]) continue;
                World o = w.copy();
                o.ways[p][q] = true;
                o.ways[q][p] = true;
                int many = Integer.bitCount(o.after(n).homes());
                if (best == null || many > best[1]) best = new int[] {10 * p + q, many};
            }
        }
        if (best == null) throw new Refused(2);
        return best;
    }

    private int answerOfSheets(String name, int[] a) {
        int[] r;
        int i = 0;
        switch (name) {
            case "sheet":
                in(a[0], 0, 3);
                if (a[1] != 0 && a[1] != 8 && a[1] != 16 && a[1] != 32) throw new Refused(1);
                if (a[1] != 0 && a[2] < 0) throw new Refused(3);
                if (a[1] != 0) in(a[2], 0, 24);
                sheets[a[0]] = a[1] == 0 ? null : new int[a[2]];
                sizes[a[0]] = a[1];
                return 1;
            case "put":
                r = row(a[0]);
                in(a[1], 0, r.length - 1);
                r[a[1]] = sizes[a[0]] == 32 ? a[2] : a[2] & (1 << sizes[a[0]]) - 1;
                return 1;
            case "move":
                in(a[0], 0, 3);
                in(a[2], 0, 3);
                r = row(a[0]);
                int[] to = row(a[2]);
                if (sizes[a[0]] != sizes[a[2]]) throw new Refused(5);
                for (int x : new int[] {a[1], a[3], a[4]}) in(x, 0, 24);
                in(a[1] + a[4], 0, r.length);
                in(a[3] + a[4], 0, to.length);
                int[] before = r.clone();
                for (i = 0; i < a[4]; i++) to[a[3] + i] = before[a[1] + i];
                return a[4];
            case "lays":
                r = row(a[0]);
                for (; i < r.length && i < w.bits.size() && r[i] >= 0 && r[i] <= 9; i++) w.bits.get(i).at = r[i];
                return i;
            case "judge":
                r = row(a[0]);
                while (i < r.length && i < w.bits.size() && r[i] == w.warmthOf(w.bits.get(i))) i++;
                return i;
            default:
                return answerOfRest(name, a);
        }
    }

    private int answerOfRest(String name, int[] a) {
        switch (name) {
            case "voice":
                Crumb c = one(a[0]);
                in(a[1], 0, 3);
                // What has begun stays in THE TRACE, also if what is PARTED breaks off the rest.
                List<Integer> t = new ArrayList<>();
                trace = t;
                int x = a[2];
                return a[1] == 0 ? c.walks(x, t) : a[1] == 1 ? c.warms(x, t) : a[1] == 2 ? c.sprouts(x, t) : c.parts(x, t);
            case "body":
                if (a[0] < 0 || a[0] >= Math.min(30, trace.size())) throw new Refused(2);
                return trace.get(a[0]);
            case "image":
                kept = w.copy();
                return ++images;
            case "restore":
                if (kept == null) throw new Refused(2);
                w = kept.copy();
                return w.day;
            case "tell":
                if (w.waiting.size() == 24) throw new Refused(4);
                w.waiting.add(a[0]);
                return w.waiting.size();
            case "check":
                List<Integer> asked = w.waiting;
                w.waiting = new ArrayList<>();
                for (int i = 0; i < asked.size(); i++) {
                    if (i >= w.bits.size() || w.bits.get(i).at != asked.get(i)) return 1 + i;
                }
                return 0;
            case "count":
                in(a[0], 0, 6);
                return new int[] {w.bits.size(), w.day, w.homes(), w.tape.length(), w.waiting.size(), trace.size(), w.z}[a[0]];
            case "told":
                in(a[0], 1, 6);
                return told[a[0]];
            default:
                throw new IllegalStateException(name);
        }
    }
}
