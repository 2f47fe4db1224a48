import java.util.ArrayList;
import java.util.List;
import java.util.Random;

/** Runs of drawn calls (always the same), each held against the Oracle's answer. */
public final class ModelTest {
    private static final int CALLS = 512;
    private static final int[] EDGES = {
        -1, 0, 1, 7, 8, 9, 10, 24, 25, 30, 31, 59, 60, 61, 69, 70, 99, 100, 999, 1000, 9999, 10000,
        Integer.MIN_VALUE, Integer.MAX_VALUE, -1000000001, 65536, 256, 1 << 24};
    private static final String[] NAMES = {
        "opens", "field", "far", "bit", "bitIs", "become", "as", "hears", "lay", "feed", "text", "untell", "law",
        "days", "loose", "day", "seed", "then", "soonest", "gets", "carry", "way", "odds", "whose", "voice", "body",
        "sheet", "put", "move", "lays", "judge", "image", "restore", "tell", "check", "count", "told"};

    private final Random r;
    private final CrumbsHome x = new CrumbsHome();
    private final Oracle o = new Oracle();
    private final List<String> log = new ArrayList<>();
    private boolean wrong = false;

    private ModelTest(long seed) {
        r = new Random(seed);
    }

    static int call(CrumbsHome x, String name, long... l) {
        int[] a = new int[l.length];
        for (int i = 0; i < l.length; i++) a[i] = (int) l[i];
        switch (name) {
            case "opens": return x.opens(a[0], a[1], a[2]);
            case "field": return x.field(a[0], a[1]);
            case "far": return x.far(a[0], a[1]);
            case "bit": return x.bit(a[0], a[1], a[2]);
            case "bitIs": return x.bitIs(a[0], a[1]);
            case "become": return x.become(a[0], a[1]);
            case "as": return x.as(a[0], a[1]);
            case "hears": return x.hears(a[0], a[1]);
            case "lay": return x.lay(a[0], a[1]);
            case "feed": return x.feed(l[0], a[1]);
            case "text": return x.text(a[0]);
            case "untell": return x.untell(a[0]);
            case "law": return x.law(a[0], a[1], a[2], a[3]);
            case "days": return x.days(a[0]);
            case "loose": return x.loose(a[0]);
            case "day": return x.day(a[0]);
            case "seed": return x.seed(a[0]);
            case "then": return x.then(a[0], a[1]);
            case "soonest": return x.soonest(a[0]);
            case "gets": return x.gets(a[0], a[1]);
            case "carry": return x.carry(a[0], a[1], a[2]);
            case "way": return x.way(a[0], a[1]);
            case "odds": return x.odds(a[0], a[1]);
            case "whose": return x.whose(a[0], a[1], a[2]);
            case "voice": return x.voice(a[0], a[1], a[2]);
            case "body": return x.body(a[0]);
            case "sheet": return x.sheet(a[0], a[1], a[2]);
            case "put": return x.put(a[0], a[1], a[2]);
            case "move": return x.move(a[0], a[1], a[2], a[3], a[4]);
            case "lays": return x.lays(a[0]);
            case "judge": return x.judge(a[0]);
            case "image": return x.image();
            case "restore": return x.restore();
            case "tell": return x.tell(a[0]);
            case "check": return x.check();
            case "count": return x.count(a[0]);
            case "told": return x.told(a[0]);
            default: throw new IllegalStateException(name);
        }
    }

    private int both(String name, long... a) {
        StringBuilder s = new StringBuilder(name).append('(');
        for (int i = 0; i < a.length; i++) s.append(i == 0 ? "" : ", ").append(a[i]);
        log.add(s.append(')').toString());
        int got = call(x, name, a);
        int due = o.call(name, a);
        if (got != due && !wrong) {
            wrong = true;
            for (String line : log.subList(Math.max(0, log.size() - 60), log.size())) System.out.println("  " + line);
            System.out.println("  answered " + got + ", due is " + due);
        }
        return got;
    }

    /** A number up to a most, or now and then one that lies elsewhere. */
    private int upTo(int most) {
        if (r.nextInt(60) == 0) return most + 1;
        if (r.nextInt(60) == 0) return -1;
        if (r.nextInt(200) == 0) return EDGES[r.nextInt(EDGES.length)];
        return r.nextInt(most + 1);
    }

    private int any() {
        int way = r.nextInt(4);
        return way == 0 ? r.nextInt() : way == 1 ? EDGES[r.nextInt(EDGES.length)] : r.nextInt(200) - 100;
    }

    private String drawnText(int use, int deep) {
        StringBuilder s = new StringBuilder();
        int parts = 1 + r.nextInt(3);
        for (int i = 0; i < parts; i++) {
            if (i > 0) s.append("|&<=>+-*/%+-*".charAt(r.nextInt(13)));
            while (r.nextInt(6) == 0) s.append('!');
            if (deep < 6 && r.nextInt(4) == 0) s.append('(').append(drawnText(use, deep + 1)).append(')');
            else if (r.nextInt(2) == 0) s.append((use == 0 ? "sdf" : "why").charAt(r.nextInt(3)));
            else s.append(r.nextInt(r.nextInt(12) == 0 ? 100000 : 12));
        }
        return s.toString();
    }

    private void tellText() {
        int use = r.nextInt(2);
        String s = drawnText(use, 0);
        if (r.nextInt(12) == 0) s = "(".repeat(r.nextInt(7)) + "!".repeat(r.nextInt(4)) + s;
        if (r.nextInt(5) == 0) {
            int at = r.nextInt(s.length());
            s = s.substring(0, at) + "()!|&<=>+-*/%0sdwhy \u00e9".charAt(r.nextInt(21)) + s.substring(at + r.nextInt(2));
        }
        for (int i = 0; i < s.length(); i += 8) {
            long word = r.nextLong();
            int n = Math.min(8, s.length() - i);
            for (int j = 0; j < n; j++) {
                word &= ~(255L << 8 * j);
                word |= (long) s.charAt(i + j) << 8 * j;
            }
            both("feed", word, n);
        }
        both("text", use);
        both("law", use, any(), any(), any());
        both("law", use, r.nextInt(4), r.nextInt(7), r.nextInt(10));
    }

    private void open(int many) {
        for (int i = 0; i < many; i++) both("opens", r.nextInt(10), r.nextInt(10), 1);
    }

    private void fillSheet() {
        int s = r.nextInt(4);
        int[] sizes = {8, 16, 32, 0, 7};
        int n = r.nextInt(10);
        both("sheet", s, sizes[r.nextInt(20) == 0 ? 3 + r.nextInt(2) : r.nextInt(3)], n);
        for (int i = 0; i < n; i++) both("put", s, i, r.nextInt(12) == 0 ? any() : r.nextInt(10));
    }

    /** What one really WARMS, so that judge() and whose() are asked about true rows, too. */
    private void tellTruth() {
        int bits = both("count", 0);
        if (bits == 0) return;
        int s = r.nextInt(4);
        both("sheet", s, 8 << r.nextInt(3), bits);
        for (int i = 0; i < bits; i++) both("put", s, i, both("bitIs", i, r.nextInt(10) == 0 ? 3 : 7));
        both("judge", s);
        int b = r.nextInt(bits);
        int days = r.nextInt(4);
        both("image");
        both("sheet", s, 8 << r.nextInt(3), days);
        for (int i = 0; i < days; i++) {
            both("put", s, i, both("bitIs", b, 7));
            both("days", 1);
        }
        both("restore");
        both("whose", s, b, 0);
        both("whose", s, r.nextInt(bits), r.nextInt(2));
    }

    private void oneCall() {
        String name = NAMES[r.nextInt(NAMES.length)];
        switch (name) {
            case "opens": both(name, upTo(9), upTo(9), upTo(1)); break;
            case "field": both(name, upTo(3), upTo(9)); break;
            case "far": both(name, upTo(9), upTo(9)); break;
            case "bit": both(name, upTo(69), upTo(3), upTo(9)); break;
            case "bitIs": both(name, upTo(7), upTo(7)); break;
            case "become": both(name, upTo(7), upTo(69)); break;
            case "as": both(name, upTo(7), upTo(6)); break;
            case "hears": both(name, upTo(7), upTo(9)); break;
            case "lay": both(name, upTo(7), upTo(9)); break;
            case "feed": both(name, r.nextLong(), upTo(8)); break;
            case "text": tellText(); break;
            case "untell": if (r.nextInt(4) == 0) both(name, upTo(1)); break;
            case "law": both(name, upTo(1), any(), any(), any()); break;
            case "days": both(name, r.nextInt(10) == 0 ? upTo(61) : 1 + r.nextInt(2)); break;
            case "loose": both(name, r.nextInt(10) == 0 ? upTo(31) : 1 + r.nextInt(2)); break;
            case "day": both(name, r.nextInt(4) == 0 ? 9999 - r.nextInt(70) : upTo(9999)); break;
            case "seed": both(name, any()); break;
            case "then": both(name, upTo(7), upTo(r.nextInt(5) == 0 ? 60 : 5)); break;
            case "soonest": both(name, upTo(7)); break;
            case "gets": both(name, upTo(3), upTo(r.nextInt(5) == 0 ? 60 : 5)); break;
            case "carry":
                if (r.nextInt(3) == 0) both(name, upTo(3), upTo(r.nextInt(9) == 0 ? 999 : 90), upTo(r.nextInt(9) == 0 ? 30 : 4));
                break;
            case "way": if (r.nextInt(3) == 0) both(name, upTo(r.nextInt(9) == 0 ? 30 : 5), upTo(1)); break;
            case "odds": both(name, upTo(r.nextInt(5) == 0 ? 60 : 5), upTo(1)); break;
            case "whose": both(name, upTo(3), upTo(7), upTo(1)); break;
            case "voice": both(name, upTo(7), upTo(3), any()); break;
            case "body": for (int i = 0; i < 7; i++) both(name, i); both(name, upTo(30)); break;
            case "sheet": if (r.nextInt(2) == 0) fillSheet(); else both(name, upTo(3), r.nextInt(40), upTo(24)); break;
            case "put": both(name, upTo(3), upTo(8), r.nextInt(3) == 0 ? any() : upTo(9)); break;
            case "move": both(name, upTo(3), upTo(6), upTo(3), upTo(6), upTo(6)); break;
            case "lays": both(name, upTo(3)); break;
            case "judge": if (r.nextInt(2) == 0) tellTruth(); else both(name, upTo(3)); break;
            case "tell": for (int i = r.nextInt(r.nextInt(9) == 0 ? 26 : 5); i >= 0; i--) both(name, upTo(9)); break;
            case "image":
            case "restore":
            case "check": both(name); break;
            case "count": both(name, upTo(6)); break;
            default: both(name, 1 + upTo(5)); break;
        }
    }

    private boolean runs() {
        if (r.nextInt(3) == 0) open(r.nextInt(2) == 0 ? 8 : 16);
        int bits = r.nextInt(9);
        int field = r.nextInt(3) == 0 ? r.nextInt(4) : -1;
        for (int i = 0; i < bits; i++) both("bit", r.nextInt(70), field < 0 ? r.nextInt(4) : field, r.nextInt(10));
        if (r.nextInt(40) == 0) {
            for (int p = 0; p < 10; p++) for (int q = 0; q < p; q++) both("opens", p, q, 1);
            both("way", 3, 0);
        }
        while (!wrong && log.size() < CALLS - 60) oneCall();
        for (int k = 1; k <= 6; k++) both("told", k);
        for (int k = 0; k <= 6; k++) both("count", k);
        return !wrong;
    }

    public static void main(String[] args) {
        int runs = args.length > 0 ? Integer.parseInt(args[0]) : 600;
        long first = args.length > 1 ? Long.parseLong(args[1]) : 1;
        int bad = 0;
        for (long seed = first; seed < first + runs; seed++) {
            if (!new ModelTest(seed).runs()) {
                System.out.println("run " + seed + " is wrong");
                bad++;
                if (bad > 3) break;
            }
        }
        System.out.println(bad == 0 ? runs + " drawn runs are as the Oracle has them" : bad + " runs are wrong");
        if (bad > 0) System.exit(1);
    }
}
