/** Each promise of the document, by answers worked out by hand. */
public final class PromiseTest {
    private static final int BEYOND = -1000000001;
    private static final int NONE = -1000000002;
    private static final int STATE = -1000000003;
    private static final int FULL = -1000000004;
    private static final int KIND = -1000000005;
    private static final int PARTED = -1000000006;
    private static final int MIN = Integer.MIN_VALUE;
    private static final int MAX = Integer.MAX_VALUE;

    private static int promise = 0;
    private static int wrongHere = 0;
    private static int passed = 0;
    private static int failed = 0;

    private static void due(String what, long got, long want) {
        if (got == want) return;
        wrongHere++;
        System.out.println("promise " + promise + ": " + what + " answered " + got + ", due is " + want);
    }

    private static void ends(int number) {
        promise = number + 1;
        if (wrongHere == 0) passed++;
        else failed++;
        wrongHere = 0;
    }

    private static CrumbsHome fresh() {
        return new CrumbsHome();
    }

    /** PLACES 0 - 1 - 2 - .. - 9 in one row. */
    private static CrumbsHome row() {
        CrumbsHome x = fresh();
        for (int p = 0; p < 9; p++) x.opens(p, p + 1, 1);
        return x;
    }

    private static void feeds(CrumbsHome x, String s) {
        for (int i = 0; i < s.length(); i += 8) {
            long word = 0;
            int n = Math.min(8, s.length() - i);
            for (int j = 0; j < n; j++) word |= (long) s.charAt(i + j) << 8 * j;
            x.feed(word, n);
        }
    }

    private static int texts(CrumbsHome x, int use, String s) {
        feeds(x, s);
        return x.text(use);
    }

    /** What a TEXT of WORTH gives. */
    private static void worth(String s, int w, int h, int y, int want) {
        CrumbsHome x = fresh();
        due("text(1) of " + s, texts(x, 1, s), 1);
        due("law of " + s, x.law(1, w, h, y), want);
    }

    private static void fault(int use, String s, int want) {
        due("FAULT of " + s, texts(fresh(), use, s), -10 - want);
    }

    private static void fill(CrumbsHome x, int sheet, int bits, int... numbers) {
        x.sheet(sheet, bits, numbers.length);
        for (int i = 0; i < numbers.length; i++) x.put(sheet, i, numbers[i]);
    }

    private static void traceIs(CrumbsHome x, int... bodies) {
        due("count(5)", x.count(5), bodies.length);
        for (int i = 0; i < bodies.length; i++) due("body(" + i + ")", x.body(i), bodies[i]);
        due("body behind the last", x.body(bodies.length), NONE);
    }

    private static void p1() {
        CrumbsHome x = fresh();
        int[] counts = {0, 0, 0, 0, 0, 0, 1};
        for (int i = 0; i < counts.length; i++) due("count(" + i + ")", x.count(i), counts[i]);
        for (int k = 1; k <= 6; k++) due("told(" + k + ")", x.told(k), 0);
        for (int p = 0; p < 10; p++) {
            for (int q = 0; q < 10; q++) due("far(" + p + ", " + q + ")", x.far(p, q), p == q ? 0 : NONE);
        }
        for (int f = 0; f < 4; f++) {
            due("field(" + f + ", 9)", x.field(f, 9), f);
            due("judge(" + f + ")", x.judge(f), NONE);
        }
        due("untell(0)", x.untell(0), 0);
        due("untell(1)", x.untell(1), 0);
        due("restore()", x.restore(), NONE);
        due("check()", x.check(), 0);
        due("body(0)", x.body(0), NONE);
        due("bitIs(0, 0)", x.bitIs(0, 0), BEYOND);
        CrumbsHome other = fresh();
        due("another one's count(0)", other.count(0), 0);
        due("another one's told(1)", other.told(1), 0);
    }

    private static void p2() {
        CrumbsHome x = fresh();
        due("opens(2, 7, 1)", x.opens(2, 7, 1), 0);
        due("opens(7, 2, 1)", x.opens(7, 2, 1), 1);
        due("opens(7, 2, 0)", x.opens(7, 2, 0), 1);
        due("opens(2, 7, 0)", x.opens(2, 7, 0), 0);
        due("far(2, 7)", x.far(2, 7), NONE);
        due("opens(0, 9, 1)", x.opens(0, 9, 1), 0);
        int[][] wrong = {{-1, 2, 1}, {10, 2, 1}, {2, -1, 0}, {2, 10, 0}, {3, 3, 1}, {3, 3, 0}, {0, 9, 2}, {0, 9, -1}, {MIN, MAX, 1}};
        for (int[] w : wrong) due("opens", x.opens(w[0], w[1], w[2]), BEYOND);
        due("told(1)", x.told(1), wrong.length);
        due("far(0, 9)", x.far(0, 9), 1);
    }

    private static void p3() {
        CrumbsHome x = row();
        x.bit(0, 3, 5);
        due("field(3, 9)", x.field(3, 9), 3);
        due("WARMS", x.bitIs(0, 7), 5);
        due("field(3, 5)", x.field(3, 5), 9);
        due("WARMS at HOME", x.bitIs(0, 7), 9);
        due("field(0, 5)", x.field(0, 5), 0);
        int[][] wrong = {{-1, 0}, {4, 0}, {0, -1}, {0, 10}, {MAX, MIN}};
        for (int[] w : wrong) due("field", x.field(w[0], w[1]), BEYOND);
        due("field(0, 0)", x.field(0, 0), 5);
    }

    private static void p4() {
        CrumbsHome x = row();
        due("far(0, 9)", x.far(0, 9), 9);
        due("far(9, 0)", x.far(9, 0), 9);
        due("far(4, 4)", x.far(4, 4), 0);
        x.opens(0, 8, 1);
        due("far(0, 9), by 8", x.far(0, 9), 2);
        due("far(1, 7), by 0 and 8", x.far(1, 7), 3);
        due("far(2, 6), either way", x.far(2, 6), 4);
        x.opens(0, 8, 0);
        due("far(0, 9), again", x.far(0, 9), 9);
        x.opens(4, 5, 0);
        due("far(0, 4)", x.far(0, 4), 4);
        due("far(5, 9)", x.far(5, 9), 4);
        due("far(4, 5)", x.far(4, 5), NONE);
        due("far(9, 0), shut", x.far(9, 0), NONE);
        int[][] wrong = {{-1, 0}, {10, 0}, {0, -1}, {0, 10}, {10, 10}};
        for (int[] w : wrong) due("far", x.far(w[0], w[1]), BEYOND);
        due("told(2)", x.told(2), 2);
    }

    private static void p5() {
        CrumbsHome x = fresh();
        int[][] wrong = {{-1, 0, 0}, {70, 0, 0}, {0, -1, 0}, {0, 4, 0}, {0, 0, -1}, {0, 0, 10}};
        for (int[] w : wrong) due("bit", x.bit(w[0], w[1], w[2]), BEYOND);
        due("count(0)", x.count(0), 0);
        for (int i = 0; i < 8; i++) due("bit", x.bit(i == 7 ? 69 : 10 * (i % 7) + i, i % 4, 9 - i), i);
        for (int i = 0; i < 7; i++) {
            due("KIND", x.bitIs(i, 0), i);
            due("m", x.bitIs(i, 1), i);
            due("FIELD", x.bitIs(i, 2), i % 4);
            due("AT", x.bitIs(i, 3), 9 - i);
            due("HEARD", x.bitIs(i, 4), 0);
        }
        due("KIND of the last", x.bitIs(7, 0), 6);
        due("m of the last", x.bitIs(7, 1), 9);
        due("a ninth", x.bit(0, 0, 0), FULL);
        due("a ninth that is none", x.bit(70, 0, 0), BEYOND);
        due("count(0)", x.count(0), 8);
    }

    private static void walks(CrumbsHome x, int bit, int day, int want) {
        x.day(day);
        due("STEPS of " + bit + " at " + day, x.bitIs(bit, 5), want);
    }

    private static void p6() {
        CrumbsHome x = fresh();
        for (int kind = 0; kind < 7; kind++) x.bit(10 * kind + 3, 0, kind + 2);
        int[][] steps = {
            {0, 1, 1, 0, 0, 2, 1, 0}, {1, 1, 0, 0, 0, 0, 1, 0}, {2, 1, 1, 0, 0, 1, 1, 0}, {3, 1, 0, 2, 0, 1, 3, 0},
            {10, 1, 1, 2, 0, 1, 3, 0}, {9, 1, 0, 0, 0, 1, 1, 0}, {9996, 1, 1, 0, 0, 2, 1, 0}};
        for (int[] row : steps) {
            for (int b = 0; b < 7; b++) walks(x, b, row[0], row[b + 1]);
        }
        int[] worth = {13, 13, 0, 6, 18, 3, 39};
        for (int b = 0; b < 7; b++) due("WORTH", x.bitIs(b, 6), worth[b]);
        int[] heard = {13, 18, 13, 6, 23, 29, 39};
        for (int b = 0; b < 7; b++) x.hears(b, 5);
        for (int b = 0; b < 7; b++) due("WORTH, HEARD 5", x.bitIs(b, 6), heard[b]);
        x.hears(2, 4);
        due("WORTH of OFFICE, HEARD 4", x.bitIs(2, 6), 0);
        due("HEARD", x.bitIs(2, 4), 4);
        for (int b = 0; b < 7; b++) due("WARMS without a WAY", x.bitIs(b, 7), 0);
        p6More();
        int[][] wrong = {{-1, 0}, {7, 0}, {0, -1}, {0, 8}, {MIN, MIN}};
        for (int[] w : wrong) due("bitIs", x.bitIs(w[0], w[1]), BEYOND);
    }

    private static void p6More() {
        CrumbsHome x = row();
        x.bit(36, 1, 5);
        x.bit(37, 2, 5);
        due("STEPS of POCKET 6", x.bitIs(0, 5), 0);
        due("STEPS of POCKET 7", x.bitIs(1, 5), 1);
        x.bit(0, 1, 5);
        due("STEPS of POCKET in company", x.bitIs(0, 5), 1);
        x.lay(2, 6);
        due("STEPS of POCKET left alone", x.bitIs(0, 5), 0);
        x.bit(68, 0, 0);
        x.bit(69, 0, 1);
        due("STEPS of KEPT 8", x.bitIs(3, 5), 0);
        due("STEPS of KEPT 9", x.bitIs(4, 5), 1);
        due("WARMS at HOME", x.bitIs(3, 7), 9);
        due("WARMS by one", x.bitIs(4, 7), 8);
        x.bit(29, 0, 9);
        x.day(2);
        due("STEPS of OFFICE: 2 and 9 by 7", x.bitIs(5, 5), 2);
        due("WARMS by nine", x.bitIs(5, 7), 0);
        texts(x, 0, "f*10-s+d");
        due("STEPS by a TEXT", x.bitIs(0, 5), 3);
        texts(x, 0, "f=4");
        due("STEPS by FAR", x.bitIs(0, 5), 1);
        x.opens(3, 4, 0);
        texts(x, 0, "f=0");
        due("STEPS by FAR without a WAY", x.bitIs(0, 5), 1);
        texts(x, 0, "d");
        x.day(9);
        due("STEPS by DAY", x.bitIs(0, 5), 2);
        texts(x, 1, "y*10+h");
        x.hears(0, 4);
        due("WORTH by DAY and HEARD", x.bitIs(0, 6), 94);
        texts(x, 1, "w+90");
        due("WORTH is 99 at the most", x.bitIs(0, 6), 98);
        x.become(0, 69);
        due("WORTH is 99", x.bitIs(0, 6), 99);
    }

    private static void p7() {
        CrumbsHome x = fresh();
        x.bit(42, 1, 5);
        x.hears(0, 7);
        due("become(0, 69)", x.become(0, 69), 4);
        int[] is = {6, 9, 1, 5, 7};
        for (int i = 0; i < is.length; i++) due("bitIs(0, " + i + ")", x.bitIs(0, i), is[i]);
        due("become(0, 0)", x.become(0, 0), 6);
        due("m", x.bitIs(0, 1), 0);
        int[][] wrong = {{-1, 0}, {1, 0}, {0, -1}, {0, 70}};
        for (int[] w : wrong) due("become", x.become(w[0], w[1]), BEYOND);
        due("KIND", x.bitIs(0, 0), 0);
    }

    private static void p8() {
        String[] under = {"0", "01", "02", "03", "014", "025", "06"};
        for (int kind = 0; kind < 7; kind++) {
            CrumbsHome x = fresh();
            x.bit(10 * kind + kind + 2, 0, 0);
            for (int as = 0; as < 7; as++) {
                boolean is = under[kind].indexOf((char) ('0' + as)) >= 0;
                due(kind + " as " + as, x.as(0, as), is ? kind + 2 : KIND);
            }
            due("as(0, 7)", x.as(0, 7), BEYOND);
            due("as(0, -1)", x.as(0, -1), BEYOND);
            due("as(1, 0)", x.as(1, 0), BEYOND);
            due("as(-1, 6)", x.as(-1, 6), BEYOND);
            due("told(5)", x.told(5), 7 - under[kind].length());
        }
    }

    private static void p9() {
        CrumbsHome x = fresh();
        x.bit(10, 0, 0);
        due("hears(0, 9)", x.hears(0, 9), 0);
        due("hears(0, 3)", x.hears(0, 3), 9);
        int[][] wrong = {{-1, 0}, {1, 0}, {0, -1}, {0, 10}};
        for (int[] w : wrong) due("hears", x.hears(w[0], w[1]), BEYOND);
        due("HEARD", x.bitIs(0, 4), 3);
        due("hears(0, 0)", x.hears(0, 0), 3);
    }

    private static void p10() {
        CrumbsHome x = fresh();
        x.bit(0, 2, 0);
        due("lay(0, 9)", x.lay(0, 9), 0);
        due("lay(0, 2)", x.lay(0, 2), 9);
        due("count(2)", x.count(2), 1);
        int[][] wrong = {{-1, 0}, {1, 0}, {0, -1}, {0, 10}};
        for (int[] w : wrong) due("lay", x.lay(w[0], w[1]), BEYOND);
        due("AT", x.bitIs(0, 3), 2);
    }

    private static void p11() {
        CrumbsHome x = fresh();
        due("feed of 0", x.feed(5, 0), BEYOND);
        due("feed of 9", x.feed(5, 9), BEYOND);
        due("feed of -1", x.feed(5, -1), BEYOND);
        due("feed of s+1 of more", x.feed(0x7777777777312b73L, 3), 3);
        due("text(0)", x.text(0), 1);
        due("law(0, 1)", x.law(0, 1, 0, 0), 2);
        due("a word below 0", x.feed(0x8000000000000000L, 8), 8);
        for (int i = 2; i <= 7; i++) due("feed", x.feed(-1L, 8), 8 * i);
        due("feed of 5", x.feed(0, 5), FULL);
        due("feed of 9", x.feed(0, 9), BEYOND);
        due("count(3)", x.count(3), 56);
        due("feed of 4", x.feed(0, 4), 60);
        due("feed of 1", x.feed(0, 1), FULL);
        due("text(1)", x.text(1), -10);
        due("count(3)", x.count(3), 0);
    }

    private static void p12() {
        CrumbsHome x = fresh();
        due("text(0) of nothing", x.text(0), -10);
        due("text(0)", texts(x, 0, "s"), 1);
        due("count(3)", x.count(3), 0);
        feeds(x, "2");
        due("text(2)", x.text(2), BEYOND);
        due("text(-1)", x.text(-1), BEYOND);
        due("count(3), BEYOND", x.count(3), 1);
        due("text(0) of what stayed", x.text(0), 1);
        due("law(0)", x.law(0, 0, 0, 0), 2);
        due("text(0) of a FAULT", texts(x, 0, "3+"), -12);
        due("count(3), FAULT", x.count(3), 0);
        due("law(0), the one ahead", x.law(0, 0, 0, 0), 2);
        due("law(1), of none", x.law(1, 7, 0, 0), 7);
        due("told(1)", x.told(1), 2);
        for (int i = 0; i < 70; i++) texts(x, 0, "1");
        due("text(0) of the last", texts(x, 0, "2"), 1);
        due("law(0) of the last", x.law(0, 0, 0, 0), 2);
        String[] good = {
            "s", "d", "f", "0", "9999", "0000", "s+d-f", "s*d/f%2", "s<d", "s=d&d>f|f", "!s", "!!!!!s", "(((((s)))))",
            "!(!(!s))", "(!!!!s)", "!s*!d", "((s))<((d))", "(s<d)<f", "!!!!!s+!!!!!1", "!!!!(s)+!(!!!f)"};
        for (String s : good) due("text(0) of " + s, texts(fresh(), 0, s), 1);
        String[] bad = {
            "w", "0", "S", "0", "s+", "2", "s s", "1", "+s", "0", "12345", "4", "s<d<f", "3", "s=d>f", "3", "!!!!!!s", "5",
            "((((((s", "5", "(!(!(!s", "5", "!!!!!(s)", "5", "()", "1", "(s", "2", "(s))", "3", "s)", "1", "sd", "1", "1s", "1",
            "s1", "1", "!", "1", "s!", "1", "s&&d", "2", "s|", "2", "((s<d)<f", "8", "(1234", "5", "(12345", "5", "s<", "2",
            "1<2+3<", "5", "s-h", "2", "s/", "2", "\0", "0", "\u00f3", "0", "s\u00ab", "1"};
        for (int i = 0; i < bad.length; i += 2) fault(0, bad[i], Integer.parseInt(bad[i + 1]));
        fault(1, "w+s", 2);
        fault(1, "w+h+y+", 6);
        String sixty = "1+".repeat(30);
        fault(1, sixty, 60);
        due("text(1) of 59", texts(fresh(), 1, sixty.substring(0, 59)), 1);
        fault(1, "5".repeat(60), 4);
        fault(1, "!".repeat(60), 5);
        p12Values();
    }

    private static void p12Values() {
        worth("1+2*3", 0, 0, 0, 7);
        worth("(1+2)*3", 0, 0, 0, 9);
        worth("9-3-2", 0, 0, 0, 4);
        worth("90/3/2", 0, 0, 0, 15);
        worth("90/4*3", 0, 0, 0, 66);
        worth("17%10*2", 0, 0, 0, 14);
        worth("w/h+5", -7, 2, 0, 2);
        worth("w%h+5", -7, 2, 0, 4);
        worth("w%h+5", 7, -2, 0, 6);
        worth("w/h+w%h+3", 7, 0, 0, 3);
        worth("w/h=w", MIN, -1, 0, 1);
        worth("w%h", MIN, -1, 0, 0);
        worth("w+1<0", MAX, 0, 0, 1);
        worth("w*w", 65536, 0, 0, 0);
        worth("w*w", 65537, 0, 0, 99);
        worth("w-h>0", MIN, 1, 0, 1);
        worth("w|h", 0, 0, 0, 0);
        worth("w|h", 0, -5, 0, 1);
        worth("w|h", 4, 2, 0, 1);
        worth("w&h", 4, 2, 0, 1);
        worth("w&h", 4, 0, 0, 0);
        worth("1|0&0", 0, 0, 0, 1);
        worth("0&0|1", 0, 0, 0, 1);
        worth("1|1&0", 0, 0, 0, 1);
        worth("!w", 0, 0, 0, 1);
        worth("!w", -3, 0, 0, 0);
        worth("!!w", 7, 0, 0, 1);
        worth("!w+5", 0, 0, 0, 6);
        worth("!(w+5)", 0, 0, 0, 0);
        worth("!w*4", 0, 0, 0, 4);
        worth("w<h", 1, 2, 0, 1);
        worth("w<h", 2, 2, 0, 0);
        worth("w>h", 2, 1, 0, 1);
        worth("w>h", 2, 2, 0, 0);
        worth("w=h", 2, 2, 0, 1);
        worth("w=h", 2, 3, 0, 0);
        worth("1+1=2&3>2+0", 0, 0, 0, 1);
        worth("(w|h)&2", 0, 3, 0, 1);
        worth("((w&h)|(w<h))*7", 0, 3, 0, 7);
        worth("(3>2)+(2>1)*5", 0, 0, 0, 6);
        worth("0012", 0, 0, 0, 12);
        worth("9999-9950", 0, 0, 0, 49);
        worth("w-h*2-y", 50, 10, 7, 23);
    }

    private static void p13() {
        CrumbsHome x = fresh();
        texts(x, 0, "2");
        texts(x, 1, "9");
        feeds(x, "1+");
        due("untell(-1)", x.untell(-1), BEYOND);
        due("untell(2)", x.untell(2), BEYOND);
        due("untell(0)", x.untell(0), 1);
        due("law(0)", x.law(0, 1, 0, 0), 1);
        due("law(1)", x.law(1, 1, 0, 0), 9);
        due("untell(0)", x.untell(0), 0);
        due("untell(1)", x.untell(1), 1);
        due("law(1)", x.law(1, 1, 0, 0), 1);
        due("count(3)", x.count(3), 2);
    }

    private static void p14() {
        CrumbsHome x = fresh();
        int[][] plain = {{0, -1, 0}, {0, 0, 0}, {0, 3, 3}, {0, 4, 3}, {0, MIN, 0}, {1, 99, 99}, {1, 100, 99}, {1, -1, 0}, {1, MAX, 99}};
        for (int[] p : plain) due("law(" + p[0] + ", " + p[1] + ")", x.law(p[0], p[1], 50, 60), p[2]);
        texts(x, 0, "s-d*f");
        due("law(0, 20, 3, 6)", x.law(0, 20, 3, 6), 2);
        due("law(0, 20, 3, 5)", x.law(0, 20, 3, 5), 3);
        due("law(0, 0, -1, 2)", x.law(0, 0, -1, 2), 2);
        texts(x, 1, "w-h*y");
        due("law(1, 20, 3, 6)", x.law(1, 20, 3, 6), 2);
        due("law(1, 0, MIN, 1)", x.law(1, 0, MIN, 1), 0);
        due("law(2)", x.law(2, 0, 0, 0), BEYOND);
        due("law(-1)", x.law(-1, 0, 0, 0), BEYOND);
    }

    private static void p15() {
        CrumbsHome x = row();
        x.bit(0, 0, 4);
        x.bit(10, 0, 4);
        x.bit(0, 1, 1);
        due("days(0)", x.days(0), BEYOND);
        due("days(61)", x.days(61), BEYOND);
        due("days(-1)", x.days(-1), BEYOND);
        due("days(1)", x.days(1), 4);
        due("DAY", x.count(1), 1);
        due("AT", x.bitIs(0, 3), 3);
        due("days(2)", x.days(2), 4);
        due("AT of CRUST", x.bitIs(1, 3), 2);
        due("days(1)", x.days(1), 5);
        due("days(60)", x.days(60), 7);
        due("DAY", x.count(1), 64);
        x.day(9940);
        due("days(60), above", x.days(60), STATE);
        due("days(61), above", x.days(61), BEYOND);
        due("DAY", x.count(1), 9940);
        due("days(59)", x.days(59), 7);
        due("DAY", x.count(1), 9999);
        due("days(1), above", x.days(1), STATE);
        p15More();
    }

    private static void p15More() {
        CrumbsHome x = fresh();
        int[][] ways = {{9, 7}, {9, 4}, {9, 2}, {4, 1}, {7, 0}, {2, 5}, {1, 3}, {0, 3}, {5, 3}, {9, 8}, {8, 6}};
        for (int[] w : ways) x.opens(w[0], w[1], 1);
        x.bit(0, 3, 9);
        x.days(1);
        due("of several to the least", x.bitIs(0, 3), 2);
        x.days(1);
        due("then by the only one", x.bitIs(0, 3), 5);
        x = row();
        x.bit(0, 0, 2);
        x.bit(36, 0, 2);
        x.bit(0, 3, 9);
        texts(x, 0, "s*3");
        due("no farther than HOME", x.days(1), 3);
        due("AT", x.bitIs(2, 3), 6);
        x = row();
        x.bit(36, 0, 5);
        x.bit(0, 0, 5);
        due("all STEPS are as the DAY begins", x.days(1), 0);
        due("AT of CRUMB", x.bitIs(1, 3), 4);
        due("AT of POCKET", x.bitIs(0, 3), 4);
        x.lay(0, 5);
        x.days(1);
        due("AT of POCKET alone", x.bitIs(0, 3), 5);
        x = fresh();
        x.bit(0, 0, 5);
        due("without a WAY", x.days(60), 0);
        due("AT", x.bitIs(0, 3), 5);
        due("DAY", x.count(1), 60);
    }

    private static void p16() {
        CrumbsHome x = fresh();
        due("loose(30) of none", x.loose(30), 0);
        due("z of none", x.count(6), 1);
        due("DAY", x.count(1), 30);
        due("loose(0)", x.loose(0), BEYOND);
        due("loose(31)", x.loose(31), BEYOND);
        x.day(9970);
        due("loose(30), above", x.loose(30), STATE);
        due("loose(31), above", x.loose(31), BEYOND);
        due("loose(29)", x.loose(29), 0);
        x = row();
        x.bit(0, 0, 9);
        x.bit(60, 1, 9);
        x.bit(60, 2, 2);
        int z = 1;
        int[] heard = new int[3];
        int[] at = {9, 9, 2};
        for (int i = 0; i < 25; i++) {
            z = z * 1103515245 + 12345;
            int one = (z >>> 8) % 3;
            z = z * 1103515245 + 12345;
            heard[one] = (z >>> 8) % 10;
            z = z * 1103515245 + 12345;
            if ((z >>> 8) % 8 == 0) {
                z = z * 1103515245 + 12345;
                at[one] = (z >>> 8) % 10;
            }
            at[0] = Math.max(0, at[0] - 1);
            int home = (at[0] == 0 ? 1 : 0) + (at[1] == 1 ? 2 : 0) + (at[2] == 2 ? 4 : 0);
            due("loose(1)", x.loose(1), home);
            due("z", x.count(6), z);
            for (int b = 0; b < 3; b++) {
                due("HEARD", x.bitIs(b, 4), heard[b]);
                due("AT", x.bitIs(b, 3), at[b]);
            }
        }
    }

    private static void p17() {
        CrumbsHome x = fresh();
        due("day(9999)", x.day(9999), 0);
        due("day(10000)", x.day(10000), BEYOND);
        due("day(-1)", x.day(-1), BEYOND);
        due("day(0)", x.day(0), 9999);
        due("count(1)", x.count(1), 0);
    }

    private static void p18() {
        CrumbsHome x = fresh();
        due("seed(MIN)", x.seed(MIN), 1);
        due("seed(-1000000001)", x.seed(-1000000001), MIN);
        due("seed(7)", x.seed(7), -1000000001);
        due("told(1)", x.told(1), 0);
        x.bit(0, 0, 0);
        x.loose(1);
        due("four draws on, for 8 divides the third", x.count(6), 1486001571);
    }

    private static void p19() {
        CrumbsHome x = row();
        x.bit(0, 0, 9);
        x.bit(10, 0, 9);
        for (int n = 0; n <= 60; n++) due("then(0, " + n + ")", x.then(0, n), Math.max(0, 9 - n));
        due("then(1, 1)", x.then(1, 1), 8);
        due("then(1, 2)", x.then(1, 2), 8);
        due("then(1, 3)", x.then(1, 3), 7);
        due("DAY", x.count(1), 0);
        due("AT", x.bitIs(0, 3), 9);
        x.day(9999);
        due("then(1, 2), beyond 9999", x.then(1, 2), 8);
        due("then(1, 1), at 9999", x.then(1, 1), 9);
        due("DAY", x.count(1), 9999);
        int[][] wrong = {{-1, 0}, {2, 0}, {0, -1}, {0, 61}};
        for (int[] w : wrong) due("then", x.then(w[0], w[1]), BEYOND);
    }

    private static void p20() {
        CrumbsHome x = row();
        x.bit(0, 0, 9);
        x.bit(10, 0, 9);
        x.bit(0, 3, 3);
        x.bit(60, 0, 1);
        due("soonest(0)", x.soonest(0), 9);
        due("soonest(1)", x.soonest(1), 17);
        due("soonest(2)", x.soonest(2), 0);
        due("soonest(3)", x.soonest(3), NONE);
        due("soonest(4)", x.soonest(4), BEYOND);
        due("soonest(-1)", x.soonest(-1), BEYOND);
        due("DAY", x.count(1), 0);
        x = row();
        x.bit(20, 0, 9);
        texts(x, 0, "(d=0)*s/2");
        due("a WAY in a week", x.soonest(0), 57);
        x.day(4);
        due("by 60", x.soonest(0), 60);
        x.day(3);
        due("not by 60", x.soonest(0), NONE);
        due("told(2)", x.told(2), 1);
    }

    private static void p21() {
        CrumbsHome x = row();
        x.bit(5, 0, 2);
        x.bit(62, 0, 0);
        x.bit(9, 1, 1);
        due("gets(0, 0)", x.gets(0, 0), 36);
        due("gets(0, 1)", x.gets(0, 1), 36);
        due("gets(0, 2)", x.gets(0, 2), 51);
        due("gets(0, 60)", x.gets(0, 60), 51);
        due("gets(1, 0)", x.gets(1, 0), 19);
        due("gets(2, 0)", x.gets(2, 0), 0);
        texts(x, 1, "y");
        x.day(9997);
        due("WORTH as it is then", x.gets(0, 2), 18);
        due("beyond 9999", x.gets(0, 6), 6);
        due("now", x.gets(0, 0), 7);
        int[][] wrong = {{-1, 0}, {4, 0}, {0, -1}, {0, 61}};
        for (int[] w : wrong) due("gets", x.gets(w[0], w[1]), BEYOND);
        due("DAY", x.count(1), 9997);
    }

    private static void p22() {
        CrumbsHome x = fresh();
        x.bit(0, 0, 5);
        x.bit(0, 1, 5);
        x.bit(2, 0, 5);
        x.bit(5, 0, 5);
        x.bit(5, 0, 5);
        x.bit(9, 0, 0);
        due("nothing more", x.carry(0, 19, 0), 0);
        due("one", x.carry(0, 20, 0), 1);
        due("one", x.carry(0, 30, 0), 4);
        due("one, the least", x.carry(0, 34, 30), 8);
        due("two", x.carry(0, 35, 0), 5);
        due("two", x.carry(0, 46, 0), 12);
        due("two, heavier", x.carry(0, 47, 0), 24);
        due("two, the last", x.carry(0, 49, 3), 24);
        due("three", x.carry(0, 50, 0), 13);
        due("all", x.carry(0, 71, 0), 29);
        due("not with all", x.carry(0, 72, 0), NONE);
        due("another FIELD", x.carry(1, 10, 0), 2);
        due("a FIELD of none", x.carry(2, 1, 0), NONE);
        due("a FIELD of none", x.carry(2, 0, 30), 0);
        due("AT", x.bitIs(0, 3), 5);
        due("HOME", x.count(2), 32);
        int[][] wrong = {{-1, 0, 0}, {4, 0, 0}, {0, -1, 0}, {0, 1000, 0}, {0, 0, -1}, {0, 0, 31}};
        for (int[] w : wrong) due("carry", x.carry(w[0], w[1], w[2]), BEYOND);
        due("999", x.carry(0, 999, 30), NONE);
        // Carrying the company home would leave the POCKET alone.
        x = row();
        x.bit(0, 0, 2);
        x.bit(30, 0, 2);
        due("without any", x.carry(0, 15, 2), 0);
        due("by a day", x.carry(0, 10, 1), 1);
        due("both", x.carry(0, 15, 1), 3);
        due("the POCKET", x.carry(0, 5, 1), 1);
        due("DAY", x.count(1), 0);
    }

    private static void p23() {
        CrumbsHome x = fresh();
        due("way(0, 0) of none", x.way(0, 0), 1);
        due("way(0, 1) of none", x.way(0, 1), 0);
        x.bit(0, 3, 8);
        x.bit(0, 2, 8);
        x.bit(0, 1, 9);
        due("way(0, 0)", x.way(0, 0), 1);
        due("way(1, 0)", x.way(1, 0), 19);
        due("way(1, 1)", x.way(1, 1), 1);
        x.opens(2, 3, 1);
        due("way(2, 0)", x.way(2, 0), 28);
        due("way(2, 1)", x.way(2, 1), 2);
        due("way(1, 0)", x.way(1, 0), 19);
        x.opens(1, 9, 1);
        due("way(1, 0), a WAY that is", x.way(1, 0), 28);
        due("way(1, 1), a WAY that is", x.way(1, 1), 2);
        due("far(2, 8)", x.far(2, 8), NONE);
        due("count(2)", x.count(2), 0);
        CrumbsHome y = row();
        y.bit(0, 0, 9);
        due("way(2, 0), over one that was", y.way(2, 0), 8);
        due("way(2, 1), over one that was", y.way(2, 1), 1);
        int[][] wrong = {{-1, 0}, {31, 0}, {0, -1}, {0, 2}};
        for (int[] w : wrong) due("way", x.way(w[0], w[1]), BEYOND);
        for (int p = 0; p < 10; p++) {
            for (int q = 0; q < p; q++) {
                if (10 * p + q != 98) x.opens(p, q, 1);
            }
        }
        due("way(30, 0), but one", x.way(30, 0), 89);
        due("way(30, 1), but one", x.way(30, 1), 3);
        x.opens(8, 9, 1);
        due("way(0, 0), between any two", x.way(0, 0), NONE);
        due("way(0, 2), between any two", x.way(0, 2), BEYOND);
    }

    private static void p24() {
        CrumbsHome x = row();
        due("odds(0, 0)", x.odds(0, 0), STATE);
        due("odds(61, 0)", x.odds(61, 0), BEYOND);
        for (int i = 0; i < 6; i++) x.bit(0, 0, i + 1);
        int[][] odds = {{0, 1}, {1, 6}, {1, 3}, {1, 2}, {2, 3}, {5, 6}, {1, 1}};
        for (int n = 0; n < odds.length; n++) {
            due("odds(" + n + ", 0)", x.odds(n, 0), odds[n][0]);
            due("odds(" + n + ", 1)", x.odds(n, 1), odds[n][1]);
        }
        due("odds(60, 0)", x.odds(60, 0), 1);
        int[][] wrong = {{-1, 0}, {61, 0}, {0, -1}, {0, 2}};
        for (int[] w : wrong) due("odds", x.odds(w[0], w[1]), BEYOND);
        due("DAY", x.count(1), 0);
    }

    private static void p25() {
        CrumbsHome x = row();
        x.bit(0, 0, 5);
        x.bit(30, 3, 5);
        fill(x, 0, 8, 7, 8, 9, 9);
        due("whose(0, 0, 0)", x.whose(0, 0, 0), 8);
        due("whose(0, 0, 1)", x.whose(0, 0, 1), 1);
        due("a POCKET stays", x.whose(0, 1, 0), 0);
        fill(x, 0, 16, 4, 5, 6);
        due("whose(0, 0, 0)", x.whose(0, 0, 0), 1);
        due("a POCKET in another's company", x.whose(0, 1, 0), 1);
        fill(x, 0, 16, 5, 5, 5);
        due("a POCKET alone", x.whose(0, 1, 0), 2);
        x.field(1, 0);
        x.field(2, 0);
        fill(x, 1, 32, 4, 5);
        due("whose(1, 0, 0)", x.whose(1, 0, 0), 7);
        due("whose(1, 0, 1)", x.whose(1, 0, 1), 3);
        x.sheet(1, 32, 0);
        due("whose(1, 0, 1), of no numbers", x.whose(1, 0, 1), 4);
        fill(x, 1, 32, 4, 5, 6, 7, 8, 9, 9, 9, 9, 9, 9, 9, 9, 9, 9, 9, 9, 9, 9, 9, 9, 9, 9, 9);
        due("whose(1, 0, 0), of 24", x.whose(1, 0, 0), 7);
        x.put(1, 23, 8);
        due("whose(1, 0, 0), of 24", x.whose(1, 0, 0), 0);
        due("whose(1, 0, 1), of 24", x.whose(1, 0, 1), 0);
        due("FIELD", x.bitIs(0, 2), 0);
        due("DAY", x.count(1), 0);
        due("missing", x.whose(2, 0, 0), NONE);
        int[][] wrong = {{-1, 0, 0}, {4, 0, 0}, {2, 2, 0}, {2, -1, 0}, {2, 0, 2}, {2, 0, -1}};
        for (int[] w : wrong) due("whose", x.whose(w[0], w[1], w[2]), BEYOND);
    }

    private static void said(int km, int bit, int voice, int x, int want, int... bodies) {
        CrumbsHome c = fresh();
        for (int i = 0; i <= bit; i++) c.bit(km, 0, 0);
        due("voice " + voice + " of " + km, c.voice(bit, voice, x), want);
        traceIs(c, bodies);
    }

    private static void p26() {
        said(5, 2, 0, 7, 9, 10);
        said(5, 2, 1, 7, 18, 11, 10);
        said(5, 2, 2, 7, 13, 12, 11, 10);
        said(5, 2, 3, 7, 2, 13);
        said(15, 2, 0, 7, 5, 20, 10);
        said(15, 2, 1, 7, 10, 11, 20, 10);
        said(15, 2, 2, 7, 5, 12, 11, 20, 10);
        said(15, 2, 3, 7, 0, 21, 13, 11, 20, 10);
        said(25, 2, 0, 7, 9, 10);
        said(25, 2, 1, 7, -18, 30, 11, 10);
        said(25, 2, 2, 7, -23, 12, 30, 11, 10);
        said(25, 2, 3, 7, 2, 13);
        said(35, 2, 2, 7, 5, 40, 12, 11, 10);
        said(35, 2, 2, -7, -7, 40, 12, 11, 10);
        said(35, 2, 1, 7, 18, 11, 10);
        said(45, 2, 0, 7, 15, 50, 20, 10);
        said(45, 2, 1, 7, 30, 11, 50, 20, 10);
        said(45, 2, 2, 7, 27, 51, 12, 11, 50, 20, 10);
        said(45, 2, 3, 7, -4, 21, 13, 11, 50, 20, 10);
        said(55, 2, 1, 7, -20, 60, 30, 11, 10);
        said(55, 2, 2, 7, -25, 12, 60, 30, 11, 10);
        said(55, 2, 0, 7, 9, 10);
        said(65, 2, 0, 7, 9, 70);
        said(65, 2, 1, 7, 23, 71, 11, 70);
        said(65, 2, 2, 7, 18, 12, 71, 11, 70);
        said(65, 2, 3, 7, 2, 13);
        said(1, 2, 3, MIN, MIN, 13);
        said(1, 2, 0, MAX, MIN + 1, 10);
        said(0, 0, 0, BEYOND, BEYOND, 10);
        said(0, 7, 3, -15, 2, 13);
        p26Errors();
    }

    private static void p26Errors() {
        CrumbsHome x = fresh();
        x.bit(1, 0, 0);
        x.bit(11, 0, 0);
        x.bit(42, 0, 0);
        x.bit(0, 0, 0);
        int[][] wrong = {{-1, 0}, {4, 0}, {0, -1}, {0, 4}};
        for (int[] w : wrong) due("voice", x.voice(w[0], w[1], 0), BEYOND);
        due("voice(0, 3)", x.voice(0, 3, 7), 7);
        due("voice(1, 3), PARTED", x.voice(1, 3, 7), PARTED);
        due("voice(2, 3), PARTED", x.voice(2, 3, 7), PARTED);
        due("voice(3, 3)", x.voice(3, 3, 7), -2);
        due("voice(1, 0), m and k alike", x.voice(1, 0, 7), 4);
        due("voice(0, 0)", x.voice(0, 0, BEYOND), BEYOND);
        due("told(6)", x.told(6), 2);
        due("told(1)", x.told(1), wrong.length);
    }

    private static void p27() {
        CrumbsHome x = fresh();
        due("body(0)", x.body(0), NONE);
        x.bit(40, 0, 0);
        x.voice(0, 2, 3);
        traceIs(x, 51, 12, 11, 50, 20, 10);
        due("body(-1)", x.body(-1), NONE);
        due("body(30)", x.body(30), NONE);
        due("body(MAX)", x.body(MAX), NONE);
        // A voice() that is BEYOND begins no BODY: THE TRACE stays the one ahead.
        x.voice(0, 4, 3);
        x.voice(1, 0, 3);
        traceIs(x, 51, 12, 11, 50, 20, 10);
        x.voice(0, 0, 3);
        traceIs(x, 50, 20, 10);
        due("told(2)", x.told(2), 7);
        for (int km = 0; km < 70; km += 10) p27Parted(km);
    }

    /** THE TRACE of a PARTED voice() is its own, and ends with what is PARTED. */
    private static void p27Parted(int km) {
        CrumbsHome x = fresh();
        x.bit(km, 0, 0);
        x.voice(0, 2, 3);
        due("PARTED", x.voice(0, 3, 3), PARTED);
        if (km == 10 || km == 40) traceIs(x, 21, 13);
        else traceIs(x, 13);
        x.image();
        x.restore();
        due("BEYOND", x.voice(0, 4, 3), BEYOND);
        due("the latest that began", x.body(1), km == 10 || km == 40 ? 13 : NONE);
        x.become(0, km + 5);
        x.voice(0, 0, 3);
        due("the one ahead is gone", x.body(0), km == 10 ? 20 : km == 40 ? 50 : km == 60 ? 70 : 10);
        due("told(6)", x.told(6), 1);
        x.voice(0, 3, 3);
        if (km == 10) traceIs(x, 21, 13, 11, 20, 10);
        else if (km == 40) traceIs(x, 21, 13, 11, 50, 20, 10);
        else traceIs(x, 13);
    }

    private static void p28() {
        CrumbsHome x = fresh();
        int[] sizes = {8, 16, 32};
        for (int size : sizes) {
            due("sheet", x.sheet(0, size, 24), 1);
            due("put of the last", x.put(0, 23, 5), 1);
            due("put of one more", x.put(0, 24, 5), BEYOND);
            due("sheet again", x.sheet(0, size, 0), 1);
            due("put of none", x.put(0, 0, 5), BEYOND);
        }
        x.bit(0, 0, 9);
        fill(x, 3, 8, 5);
        x.sheet(3, 8, 1);
        due("all 0", x.lays(3), 1);
        due("AT", x.bitIs(0, 3), 0);
        due("sheet(3, 0, -5)", x.sheet(3, 0, -5), 1);
        due("missing", x.lays(3), NONE);
        due("sheet(3, 0, 99)", x.sheet(3, 0, 99), 1);
        due("sheet(0, 8, -1)", x.sheet(0, 8, -1), STATE);
        due("sheet(0, 8, MIN)", x.sheet(0, 8, MIN), STATE);
        due("sheet(0, 8, 25)", x.sheet(0, 8, 25), BEYOND);
        due("sheet(0, 9, -1)", x.sheet(0, 9, -1), BEYOND);
        due("sheet(0, -8, 1)", x.sheet(0, -8, 1), BEYOND);
        due("sheet(0, 64, 1)", x.sheet(0, 64, 1), BEYOND);
        due("sheet(4, 8, -1)", x.sheet(4, 8, -1), BEYOND);
        due("sheet(-1, 0, 0)", x.sheet(-1, 0, 0), BEYOND);
        due("sheet 0 stays", x.judge(0), 0);
    }

    private static void p29() {
        CrumbsHome x = fresh();
        x.bit(0, 0, 9);
        x.sheet(0, 8, 2);
        x.sheet(1, 16, 2);
        x.sheet(2, 32, 2);
        int[][] puts = {{0, 256 + 4, 1}, {0, 256 + 255, 0}, {0, -256, 1}, {1, 65536 + 4, 1}, {1, 256 + 4, 0}, {2, 65536 + 4, 0}, {2, 6, 1}};
        for (int[] p : puts) {
            due("put", x.put(p[0], 0, p[1]), 1);
            due("lays behind put of " + p[1], x.lays(p[0]), p[2]);
        }
        due("AT", x.bitIs(0, 3), 6);
        int[][] wrong = {{-1, 0, BEYOND}, {4, 0, BEYOND}, {3, 0, NONE}, {3, -1, NONE}, {0, -1, BEYOND}, {0, 2, BEYOND}, {0, MAX, BEYOND}};
        for (int[] w : wrong) due("put", x.put(w[0], w[1], 1), w[2]);
        due("number 1", x.put(0, 1, 3), 1);
    }

    /** Numbers of a SHEET, as the PLACES that it lays. */
    private static void sheetIs(CrumbsHome x, int sheet, int... numbers) {
        due("lays", x.lays(sheet), numbers.length);
        for (int i = 0; i < numbers.length; i++) due("number " + i, x.bitIs(i, 3), numbers[i]);
    }

    private static void p30() {
        CrumbsHome x = fresh();
        for (int i = 0; i < 8; i++) x.bit(0, 0, 0);
        fill(x, 0, 8, 1, 2, 3, 4, 5);
        fill(x, 1, 8, 9, 9, 9);
        x.sheet(2, 16, 5);
        due("move to another", x.move(0, 2, 1, 0, 2), 2);
        sheetIs(x, 1, 3, 4, 9);
        due("move onward", x.move(0, 0, 0, 1, 4), 4);
        sheetIs(x, 0, 1, 1, 2, 3, 4);
        due("move back", x.move(0, 1, 0, 0, 4), 4);
        sheetIs(x, 0, 1, 2, 3, 4, 4);
        due("move of none", x.move(0, 5, 1, 3, 0), 0);
        due("move of all", x.move(1, 0, 0, 2, 3), 3);
        sheetIs(x, 0, 1, 2, 3, 4, 9);
        int[][] wrong = {
            {-1, 0, 0, 0, 1, BEYOND}, {4, 0, 3, 0, 1, BEYOND}, {3, 0, 4, 0, 1, BEYOND}, {3, 0, 0, 0, 1, NONE}, {0, 0, 3, -1, 1, NONE},
            {0, -1, 2, 0, 1, KIND}, {0, 0, 2, 0, 1, KIND}, {0, -1, 1, 0, 1, BEYOND}, {0, 0, 1, -1, 1, BEYOND}, {0, 0, 1, 0, -1, BEYOND},
            {0, 5, 1, 0, 1, BEYOND}, {0, 0, 1, 3, 1, BEYOND}, {0, 6, 1, 0, 0, BEYOND}, {0, 0, 1, 4, 0, BEYOND}, {0, 2, 0, 0, 4, BEYOND},
            {0, 0, 1, 0, 4, BEYOND}, {0, MAX, 1, 0, MAX, BEYOND}, {0, 0, 0, 0, MAX, BEYOND}, {0, 1, 0, MAX, 1, BEYOND}, {0, 0, 0, 0, MIN, BEYOND}};
        for (int[] w : wrong) due("move", x.move(w[0], w[1], w[2], w[3], w[4]), w[5]);
        sheetIs(x, 0, 1, 2, 3, 4, 9);
    }

    private static void p31() {
        CrumbsHome x = fresh();
        due("lays(0)", x.lays(0), NONE);
        fill(x, 0, 8, 4, 9);
        due("for none of BITS", x.lays(0), 0);
        x.bit(0, 0, 1);
        due("one", x.lays(0), 1);
        due("AT", x.bitIs(0, 3), 4);
        for (int i = 0; i < 3; i++) x.bit(0, 0, 1);
        fill(x, 0, 16, 0, 7, 10, 8);
        due("up to no PLACE", x.lays(0), 2);
        int[] at = {0, 7, 1, 1};
        for (int i = 0; i < 4; i++) due("AT", x.bitIs(i, 3), at[i]);
        fill(x, 0, 32, -1, 3);
        due("below 0", x.lays(0), 0);
        due("told(2)", x.told(2), 1);
        due("lays(-1)", x.lays(-1), BEYOND);
        due("lays(4)", x.lays(4), BEYOND);
    }

    private static void p32() {
        CrumbsHome x = row();
        due("judge(0)", x.judge(0), NONE);
        x.bit(0, 0, 0);
        x.bit(0, 0, 9);
        x.bit(0, 1, 3);
        fill(x, 0, 32, 9, 0, 7, 0);
        due("all", x.judge(0), 3);
        x.put(0, 1, 1);
        due("the first", x.judge(0), 1);
        x.put(0, 0, 8);
        due("none", x.judge(0), 0);
        x.sheet(0, 8, 0);
        due("no numbers", x.judge(0), 0);
        due("judge(-1)", x.judge(-1), BEYOND);
        due("judge(4)", x.judge(4), BEYOND);
    }

    private static CrumbsHome pictured() {
        CrumbsHome x = row();
        x.bit(31, 0, 5);
        x.hears(0, 4);
        x.bit(0, 1, 1);
        x.field(2, 9);
        x.day(77);
        x.seed(5);
        texts(x, 0, "2");
        feeds(x, "3");
        x.tell(5);
        x.tell(1);
        return x;
    }

    private static void p33() {
        CrumbsHome x = pictured();
        due("image()", x.image(), 1);
        due("count(3)", x.count(3), 1);
        due("count(4)", x.count(4), 2);
        x.day(3);
        due("image()", x.image(), 2);
        x.day(4);
        due("restore()", x.restore(), 3);
        due("image()", x.image(), 3);
        for (int i = 4; i < 9; i++) due("image()", x.image(), i);
    }

    private static void p34() {
        CrumbsHome x = pictured();
        due("restore()", x.restore(), NONE);
        x.image();
        for (int p = 0; p < 9; p++) x.opens(p, p + 1, 0);
        x.opens(0, 9, 1);
        x.become(0, 42);
        x.hears(0, 9);
        x.lay(1, 8);
        x.bit(0, 0, 0);
        x.field(2, 0);
        x.day(9);
        x.seed(6);
        texts(x, 1, "5");
        feeds(x, "4444");
        x.untell(0);
        x.check();
        for (int i = 0; i < 3; i++) x.tell(9);
        x.sheet(2, 8, 1);
        x.voice(0, 0, 0);
        x.far(1, 2);
        due("restore()", x.restore(), 77);
        due("far(0, 9)", x.far(0, 9), 9);
        int[] is = {3, 1, 0, 5, 4, 2, 5, 4};
        for (int i = 0; i < 8; i++) due("bitIs(0, " + i + ")", x.bitIs(0, i), is[i]);
        int[] counts = {2, 77, 2, 1, 2, 3, 5};
        for (int i = 0; i < 7; i++) due("count(" + i + ")", x.count(i), counts[i]);
        due("check()", x.check(), 0);
        due("text(1) of THE TAPE", x.text(1), 1);
        due("law(1)", x.law(1, 9, 0, 0), 3);
        due("a SHEET stays", x.judge(2), 0);
        due("THE TRACE stays", x.body(0), 50);
        due("told(2)", x.told(2), 2);
        due("field(2, 1)", x.field(2, 1), 9);
        due("restore() again", x.restore(), 77);
        due("untell(1)", x.untell(1), 0);
        due("untell(0)", x.untell(0), 1);
        due("image()", x.image(), 2);
    }

    private static void p35() {
        CrumbsHome x = fresh();
        for (int i = 1; i <= 24; i++) due("tell", x.tell(i == 1 ? MIN : i), i);
        due("tell", x.tell(0), FULL);
        due("count(4)", x.count(4), 24);
        x.check();
        due("tell", x.tell(0), 1);
    }

    private static void p36() {
        CrumbsHome x = fresh();
        for (int i = 0; i < 8; i++) x.bit(0, 0, i);
        due("check() of none", x.check(), 0);
        for (int i = 0; i < 8; i++) x.tell(i);
        due("check() of all", x.check(), 0);
        due("count(4)", x.count(4), 0);
        for (int i = 0; i < 9; i++) x.tell(i);
        due("check() of more", x.check(), 9);
        x.tell(0);
        x.tell(1);
        x.tell(3);
        x.tell(9);
        due("check() of wrong ones", x.check(), 3);
        due("check() again", x.check(), 0);
        x.tell(-1);
        due("check() of the first", x.check(), 1);
        CrumbsHome empty = fresh();
        empty.tell(0);
        due("check() without BITS", empty.check(), 1);
    }

    private static void p37() {
        CrumbsHome x = row();
        x.bit(0, 0, 0);
        x.bit(0, 1, 0);
        x.bit(0, 2, 2);
        x.day(11);
        feeds(x, "abc");
        x.tell(1);
        x.voice(0, 1, 1);
        x.seed(-1000000001);
        int[] counts = {3, 11, 5, 3, 1, 2, -1000000001};
        for (int i = 0; i < 7; i++) due("count(" + i + ")", x.count(i), counts[i]);
        due("count(-1)", x.count(-1), BEYOND);
        due("count(7)", x.count(7), BEYOND);
        due("told(1)", x.told(1), 2);
        for (int i = 3; i < 8; i++) x.bit(0, 3, 3);
        due("count(2), of 8", x.count(2), 253);
    }

    private static void p38() {
        CrumbsHome x = fresh();
        due("told(0)", x.told(0), BEYOND);
        due("told(7)", x.told(7), BEYOND);
        due("told(-1)", x.told(-1), BEYOND);
        due("told(1)", x.told(1), 3);
        x.bit(0, 0, 0);
        x.restore();
        x.restore();
        x.day(9999);
        x.days(1);
        for (int i = 0; i < 24; i++) x.tell(0);
        for (int i = 0; i < 4; i++) x.tell(0);
        x.as(0, 6);
        x.voice(0, 3, 1);
        x.voice(0, 3, 1);
        texts(x, 0, "+");
        x.image();
        x.restore();
        int[] told = {3, 2, 1, 4, 1, 2};
        for (int k = 1; k <= 6; k++) due("told(" + k + ")", x.told(k), told[k - 1]);
    }

    private static void firstHalf() {
        p1(); ends(1);
        p2(); ends(2);
        p3(); ends(3);
        p4(); ends(4);
        p5(); ends(5);
        p6(); ends(6);
        p7(); ends(7);
        p8(); ends(8);
        p9(); ends(9);
        p10(); ends(10);
        p11(); ends(11);
        p12(); ends(12);
        p13(); ends(13);
        p14(); ends(14);
        p15(); ends(15);
        p16(); ends(16);
        p17(); ends(17);
        p18(); ends(18);
        p19(); ends(19);
    }

    private static void secondHalf() {
        p20(); ends(20);
        p21(); ends(21);
        p22(); ends(22);
        p23(); ends(23);
        p24(); ends(24);
        p25(); ends(25);
        p26(); ends(26);
        p27(); ends(27);
        p28(); ends(28);
        p29(); ends(29);
        p30(); ends(30);
        p31(); ends(31);
        p32(); ends(32);
        p33(); ends(33);
        p34(); ends(34);
        p35(); ends(35);
        p36(); ends(36);
        p37(); ends(37);
        p38(); ends(38);
    }

    public static void main(String[] args) {
        promise = 1;
        firstHalf();
        secondHalf();
        System.out.println(passed + " promises hold, " + failed + " do not");
        if (failed > 0) System.exit(1);
    }
}
