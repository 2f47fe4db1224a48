import java.util.ArrayList;
import java.util.List;

/** Tests of edges, each on new objects of its own; a name tells the promise and the sentence. */
final class Edges {
    /** All PLACES in one row. */
    static final String ROW = "opens(0,1,1); opens(1,2,1); opens(2,3,1); opens(3,4,1); opens(4,5,1); opens(5,6,1);"
        + "opens(6,7,1); opens(7,8,1); opens(8,9,1);";

    /** An object of which each part holds something, in its IMAGE something else, and each told(k) another number. */
    static final String WORLD = "opens(0,1,1); opens(1,2,1); opens(2,3,1); opens(3,4,1); opens(6,9,1); field(2,9);"
        + "bit(5,0,2); bit(13,1,4); bit(27,2,6); bit(36,3,0); bit(44,0,2); bit(58,1,8); bit(69,2,5);"
        + "hears(1,3); hears(2,6); hears(6,9); 0's+1'=1; 1'w+h*2'=1; 'd'; tell(2); day(77); seed(5);"
        + "image(); image();"
        + "opens(3,4,0); opens(7,8,1); field(3,2); lay(1,3); become(0,17); hears(4,8); text(0)=1; 0's+f'=1; 1'w+y'=1; 'd+f*2';"
        + "tell(3); tell(6); seed(6); day(9999); days(1)=STATE; day(78);"
        + "sheet(0,8,24); put(0,0,3); put(0,6,8); put(0,7,5); put(0,22,9); put(0,23,1);"
        + "sheet(1,16,3); put(1,0,7); put(1,2,4); sheet(2,8,2); put(2,0,6); put(2,1,2);"
        + "voice(4,3,0)=PARTED; voice(4,2,3); far(0,9)=NONE; far(5,9)=NONE; 2*odds(61,0)=BEYOND; as(0,6)=KIND;";

    private static final int[] NUMBERS_ASKED = {0, 1, 2, 3, 4, 22, 23, 24};

    private int held = 0;
    private int failed = 0;

    /** A WAY between any two PLACES. */
    static String allWays() {
        StringBuilder all = new StringBuilder();
        for (int p = 0; p < 9; p++) {
            for (int q = p + 1; q < 10; q++) all.append("opens(" + p + "," + q + ",1)=0;");
        }
        return all.toString();
    }

    /** A test: a script whose answers are as due. */
    void edge(String name, String script) {
        ends(name, new Script().run(script).wrong());
    }

    /**
     * A test each: a call is refused, and all is as if it had not been done, but what told() tells. What is
     * changed all the same (THE TRACE) is mended by more calls behind a semicolon.
     */
    void refused(String promise, String base, String... calls) {
        for (String call : calls) {
            ends(promise + ": " + call, compared(new Script().run(base), new Script().run(base + call), errorOf(call)));
        }
    }

    /** A test: behind the one script all is as it is behind the other one, what told() tells, too. */
    void same(String name, String one, String other) {
        ends(name, compared(new Script().run(one), new Script().run(other), 0));
    }

    /** Which ERROR the first answer is that is due. */
    private static int errorOf(String call) {
        String due = call.split(";")[0];
        return (int) (-1000000000 - Script.number(due.substring(due.indexOf('=') + 1)));
    }

    private void ends(String name, List<String> wrong) {
        if (wrong.isEmpty()) {
            held++;
            return;
        }
        failed++;
        System.out.println("promise " + name);
        for (String w : wrong) System.out.println("    " + w);
    }

    /** Exits if a test failed. */
    void end() {
        System.out.println(held + " edges hold, " + failed + " do not");
        if (failed > 0) System.exit(1);
    }

    private static List<String> compared(Script one, Script other, int error) {
        List<String> wrong = new ArrayList<>();
        for (int k = 1; k <= 6; k++) {
            int more = other.ask("told", k) - one.ask("told", k);
            if (more != (k == error ? 1 : 0)) wrong.add("told(" + k + ") is " + more + " more");
        }
        List<String> due = reading(one);
        List<String> got = reading(other);
        if (due.size() != got.size()) wrong.add(got.size() + " answers, due are " + due.size());
        for (int i = 0; i < due.size() && i < got.size(); i++) {
            if (!due.get(i).equals(got.get(i))) wrong.add("behind it " + got.get(i) + ", due is " + due.get(i));
        }
        wrong.addAll(one.wrong());
        for (String w : other.wrong()) if (!one.wrong().contains(w)) wrong.add(w);
        return wrong;
    }

    /** All that an object can be asked for, what told() tells left out; the object is used up by it. */
    private static List<String> reading(Script s) {
        List<String> all = new ArrayList<>();
        for (int i = 0; i < 7; i++) put(all, s, "count", i);
        for (int i = 0; i < 7; i++) put(all, s, "body", i);
        readPlaces(all, s, 7);
        readTexts(all, s);
        readSheets(all, s);
        put(all, s, "restore");
        for (int i = 0; i < 5; i++) put(all, s, "count", i);
        readPlaces(all, s, 4);
        readTexts(all, s);
        put(all, s, "image");
        return all;
    }

    private static void put(List<String> all, Script s, String name, long... args) {
        StringBuilder call = new StringBuilder(name).append('(');
        for (int i = 0; i < args.length; i++) call.append(i == 0 ? "" : ",").append(args[i]);
        all.add(call.append(")=").append(s.ask(name, args)).toString());
    }

    private static void readPlaces(List<String> all, Script s, int most) {
        int bits = s.ask("count", 0);
        for (int b = 0; b < bits; b++) {
            for (int what = 0; what <= most; what++) put(all, s, "bitIs", b, what);
        }
        for (int p = 0; p < 10; p++) {
            for (int q = p + 1; q < 10; q++) put(all, s, "far", p, q);
        }
        put(all, s, "check");
        for (int f = 0; f < 4; f++) put(all, s, "field", f, 0);
    }

    private static void readTexts(List<String> all, Script s) {
        for (int i = 0; i < 2; i++) {
            put(all, s, "law", 0, 0, 1, 0);
            put(all, s, "law", 0, 1, 0, 1);
            put(all, s, "law", 1, 40, 1, 0);
            put(all, s, "law", 1, 40, 0, 9);
            if (i == 0) put(all, s, "text", 0);
        }
    }

    /** Of how many bits they are, their numbers as PLACES that are laid, and how many those are. */
    private static void readSheets(List<String> all, Script s) {
        int bits = s.ask("count", 0);
        for (int t = 0; t < 4; t++) {
            for (int u = t + 1; u < 4; u++) put(all, s, "move", t, 0, u, 0, 0);
        }
        for (int t = 0; t < 4; t++) {
            readLaid(all, s, t, bits);
            for (int i = bits; bits > 0 && i < 24; i += bits) {
                if (s.ask("move", t, i, t, 0, Math.min(bits, 24 - i)) > 0) readLaid(all, s, t, bits);
            }
            for (int i : NUMBERS_ASKED) put(all, s, "put", t, i, 0);
        }
    }

    private static void readLaid(List<String> all, Script s, int sheet, int bits) {
        put(all, s, "lays", sheet);
        for (int b = 0; b < bits; b++) put(all, s, "bitIs", b, 3);
    }
}
