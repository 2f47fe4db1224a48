/** The edges of promises 26 to 38: VOICES, SHEETS, IMAGES, and what is told. */
public final class SheetEdgeTest {
    private static final Edges ON = new Edges();
    private static final String WORLD = Edges.WORLD;
    private static final String ROW = Edges.ROW;
    private static final String EIGHT = WORLD + "bit(0,0,0)=7;";
    private static final String NO_ERRORS = "told(1)=0; told(2)=0; told(3)=0; told(4)=0; told(5)=0; told(6)=0;";

    /** What leads from the IMAGE of the WORLD to the WORLD again. */
    private static final String BACK_FROM_IMAGE = "opens(3,4,0); opens(7,8,1); field(3,2); lay(1,3); become(0,17); hears(4,8);"
        + "text(0)=1; 0's+f'=1; 1'w+y'=1; 'd+f*2'; tell(3); tell(6); seed(6); day(78);";

    /** A voice of bit 0 (k is 0) or 1 (k is 1). */
    private static String voiceOf(int km, int k, int voice, long x, long due) {
        return (k == 0 ? "" : "bit(0,0,0);") + "bit(" + km + ",0,0); voice(" + k + "," + voice + "," + x + ")=" + due;
    }

    private static void voice() {
        long min = Integer.MIN_VALUE;
        long max = Integer.MAX_VALUE;
        ON.edge("26: the lowest and the highest voice", "bit(5,0,0); voice(0,0,8)=8; voice(0,3,8)=1");
        ON.edge("26: 10, x + k wraps around", voiceOf(0, 1, 0, max, min));
        ON.edge("26: 10, k 7", "8*bit(0,0,0); voice(7,0,-7)=0; voice(7,0,2147483640)=MAX; voice(7,0,2147483641)=MIN");
        ON.edge("26: 11, * 2 wraps around", voiceOf(0, 0, 1, 1 << 30, min) + "; voice(0,1,MIN)=0; voice(0,1,MAX)=-2;"
            + "voice(0,1,1073741823)=2147483646");
        ON.edge("26: 12, - m wraps around", voiceOf(1, 0, 2, 1 << 30, max) + "; voice(0,2,MIN)=-1");
        ON.edge("26: 12, m 0 and 9", voiceOf(9, 0, 2, 4, -1) + "; become(0,0); voice(0,2,4)=8");
        ON.edge("26: 13, x by (m - k) wraps around", "bit(0,0,0); bit(0,0,0); voice(1,3,MIN)=MIN; voice(1,3,MAX)=-2147483647; become(0,1);"
            + "voice(0,3,MIN)=MIN");
        ON.edge("26: 13, cut toward 0", "bit(2,0,0); voice(0,3,7)=3; voice(0,3,-7)=-3; voice(0,3,1)=0; voice(0,3,-1)=0; 2*bit(0,0,0);"
            + "voice(2,3,7)=-3; voice(2,3,-7)=3");
        ON.edge("26: 13, the greatest and the least m - k", "bit(9,0,0); 7*bit(0,0,0); voice(0,3,80)=8; voice(0,3,81)=9; voice(7,3,70)=-10;"
            + "voice(7,3,69)=-9");
        ON.edge("26: 20, - 4 wraps around", voiceOf(10, 0, 0, min, max - 3) + "; voice(0,0,-2147483644)=MIN");
        ON.edge("26: 21, + warms(1) wraps around", voiceOf(11, 0, 3, min, max - 5));
        ON.edge("26: 21, warms(1) is that of the KIND, its x is 1", voiceOf(11, 0, 3, 100, 94) + "; become(0,41); voice(0,3,100)=82");
        ON.edge("26: 30, 0 - the lowest", voiceOf(20, 0, 1, 1 << 30, min));
        ON.edge("26: 30, 0 - 0", voiceOf(20, 0, 1, 0, 0));
        ON.edge("26: 40, x / 2 is cut toward 0", voiceOf(30, 0, 2, -3, -2) + "; voice(0,2,3)=2; voice(0,2,-1)=0; voice(0,2,1)=0;"
            + "voice(0,2,MIN)=MIN; voice(0,2,MAX)=2147483646");
        ON.edge("26: 50, * 3 wraps around", voiceOf(40, 0, 0, max, (int) ((max - 4) * 3)));
        ON.edge("26: 50, of what is below 0", voiceOf(40, 0, 0, 0, -12));
        ON.edge("26: 51, ^ k of bits", "6*bit(40,0,0); voice(5,2,0)=3; voice(5,2,1)=9; voice(5,2,-2)=-1; voice(0,2,4)=0; voice(1,2,3)=1;"
            + "voice(3,2,1)=3");
        ON.edge("26: 60, x + 1 wraps around", voiceOf(50, 0, 1, max, 0) + "; voice(0,1,-1)=0; voice(0,1,0)=-2; voice(0,1,1073741823)=MIN");
        ON.edge("26: 70, 9 of any x", voiceOf(60, 0, 0, min, 9) + "; voice(0,0,MAX)=9; voice(0,0,0)=9");
        ON.edge("26: 71, m 0 and 9", voiceOf(60, 0, 1, 5, 18) + "; become(0,69); voice(0,1,5)=27; voice(0,2,5)=18");
        ON.edge("26: any number is no ERROR", "bit(1,0,0); voice(0,0,BEYOND)=BEYOND; voice(0,0,NONE)=NONE; voice(0,0,STATE)=STATE;"
            + "voice(0,0,FULL)=FULL;"
            + "voice(0,0,KIND)=KIND; voice(0,0,PARTED)=PARTED; voice(0,3,PARTED)=PARTED;" + NO_ERRORS);
        ON.same("26: all but THE TRACE stays as it is", WORLD, WORLD + "voice(0,0,MAX); voice(1,1,1); voice(6,3,5); voice(4,2,3)");
    }

    /** BODIES of each KIND by each voice, as they begin where m is not k. */
    private static void bodies() {
        String[][] begun = {
            {"10", "11 10", "12 11 10", "13"},
            {"20 10", "11 20 10", "12 11 20 10", "21 13 11 20 10"},
            {"10", "30 11 10", "12 30 11 10", "13"},
            {"10", "11 10", "40 12 11 10", "13"},
            {"50 20 10", "11 50 20 10", "51 12 11 50 20 10", "21 13 11 50 20 10"},
            {"10", "60 30 11 10", "12 60 30 11 10", "13"},
            {"70", "71 11 70", "12 71 11 70", "13"}};
        for (int kind = 0; kind < 7; kind++) {
            for (int voice = 0; voice < 4; voice++) {
                String[] row = begun[kind][voice].split(" ");
                StringBuilder s = new StringBuilder("bit(" + (10 * kind + 1) + ",0,0); voice(0," + voice + ",5); count(5)=" + row.length);
                for (int i = 0; i < row.length; i++) s.append("; body(" + i + ")=" + row[i]);
                ON.edge("27: KIND " + kind + " by voice " + voice, s.append("; body(" + row.length + ")=NONE").toString());
            }
        }
    }

    private static void parted() {
        for (int k = 0; k < 8; k++) {
            ON.edge("26: PARTED with k " + k, "8*bit(" + k + ",0,0); voice(" + k + ",3,5)=PARTED; told(6)=1; told(1)=0");
        }
        for (int kind = 0; kind < 7; kind++) {
            ON.edge("26: PARTED, KIND " + kind, "bit(" + 10 * kind + ",0,0); voice(0,3,0)=PARTED; voice(0,3,MIN)=PARTED; told(6)=2;"
            + "become(0," + (10 * kind + 1) + "); voice(0,3,0)="
                + (kind == 1 ? -6 : kind == 4 ? -18 : 0) + "; told(6)=2");
        }
        ON.edge("26: m and k alike matter to parts alone", "bit(0,0,0); voice(0,0,1)=1; voice(0,1,1)=2; voice(0,2,1)=2; told(6)=0");
        ON.refused("26, PARTED", WORLD, "voice(4,3,5)=PARTED; voice(4,2,3)");
        ON.refused("26, BEYOND", WORLD, "voice(-1,0,5)=BEYOND", "voice(7,0,5)=BEYOND", "voice(0,-1,5)=BEYOND", "voice(0,4,5)=BEYOND",
            "voice(MIN,0,5)=BEYOND", "voice(MAX,3,5)=BEYOND", "voice(6,MIN,5)=BEYOND", "voice(6,MAX,5)=BEYOND");
        ON.refused("26, BEYOND, where parts is PARTED", WORLD, "voice(4,4,5)=BEYOND", "voice(7,3,5)=BEYOND");
        ON.refused("26, with 8 of BITS", EIGHT, "voice(8,0,5)=BEYOND");
        ON.refused("26, without BITS", "", "voice(0,0,5)=BEYOND");
    }

    private static void body() {
        ON.edge("27: without a TRACE", "body(0)=NONE; body(-1)=NONE; body(29)=NONE; count(5)=0");
        ON.edge("27: a TRACE of one", "bit(0,0,0); voice(0,0,1); body(0)=10; body(1)=NONE; body(-1)=NONE; count(5)=1");
        ON.edge("27: the longest TRACE", "bit(41,0,0); voice(0,3,1); count(5)=6; body(0)=21; body(1)=13; body(2)=11; body(3)=50;"
            + "body(4)=20; body(5)=10; body(6)=NONE; body(29)=NONE; body(30)=NONE");
        ON.edge("27: of the latest voice, a longer one ahead", "bit(41,0,0); voice(0,3,1); voice(0,0,1); count(5)=3; body(0)=50;"
            + "body(1)=20; body(2)=10; body(3)=NONE");
        ON.edge("27: of the latest voice, a shorter one ahead", "bit(41,0,0); voice(0,0,1); voice(0,2,1); count(5)=6; body(0)=51;"
            + "body(5)=10; body(6)=NONE");
        ON.edge("27: of the latest voice, PARTED", "bit(10,0,0); voice(0,2,1); voice(0,3,1)=PARTED; count(5)=2; body(0)=21; body(1)=13;"
            + "body(2)=NONE");
        ON.edge("27: none behind what is PARTED", "bit(40,0,0); voice(0,3,1)=PARTED; count(5)=2; body(2)=NONE; become(0,41); voice(0,3,1);"
            + "count(5)=6");
        ON.edge("27: super.walks of a KIND that has none above it but CRUMB's", "bit(20,0,0); voice(0,1,1); body(0)=30; body(1)=11;"
            + "body(2)=10; body(3)=NONE");
        ON.edge("27: super.warms of ENVELOPE is OFFICE's", "bit(50,0,0); voice(0,1,1); body(0)=60; body(1)=30; body(2)=11; body(3)=10;"
            + "body(4)=NONE");
        ON.edge("27: a KEPT ends with 70", "bit(60,0,0); voice(0,2,1); body(0)=12; body(1)=71; body(2)=11; body(3)=70; body(4)=NONE");
        ON.edge("27: restore leaves it", "bit(0,0,0); image(); voice(0,1,1); restore(); count(5)=2; body(1)=10");
        ON.refused("27", WORLD, "body(-1)=NONE", "body(6)=NONE", "body(30)=NONE", "body(MIN)=NONE", "body(MAX)=NONE");
        ON.same("27: all stays as it is", WORLD, WORLD + "body(0); body(5)=10");
    }

    private static void sheet() {
        ON.edge("28: the lowest and the highest SHEET", "sheet(0,8,1)=1; sheet(3,8,1)=1; lays(0)=0; lays(3)=0; lays(1)=NONE; lays(2)=NONE");
        for (int bits : new int[] {8, 16, 32}) {
            ON.edge("28: no numbers of " + bits, "sheet(1," + bits + ",0)=1; put(1,0,0)=BEYOND; put(1,-1,0)=BEYOND");
            ON.edge("28: one number of " + bits, "sheet(1," + bits + ",1)=1; put(1,0,0)=1; put(1,1,0)=BEYOND; put(1,-1,0)=BEYOND");
            ON.edge("28: 24 numbers of " + bits, "sheet(1," + bits + ",24)=1; put(1,0,0)=1; put(1,23,0)=1; put(1,24,0)=BEYOND");
            ON.refused("28, n, numbers of " + bits, WORLD, "sheet(0," + bits + ",-1)=STATE", "sheet(0," + bits + ",MIN)=STATE",
                "sheet(0," + bits + ",25)=BEYOND", "sheet(0," + bits + ",MAX)=BEYOND", "sheet(3," + bits + ",25)=BEYOND", "sheet(3," + bits
            + ",-1)=STATE");
        }
        ON.edge("28: 0 bits, n doesn't matter", "sheet(1,8,1); sheet(1,0,-1)=1; lays(1)=NONE; sheet(1,8,1); sheet(1,0,25)=1; lays(1)=NONE;"
            + "sheet(1,8,1); sheet(1,0,MIN)=1; lays(1)=NONE;"
            + "sheet(1,8,1); sheet(1,0,MAX)=1; lays(1)=NONE; sheet(1,8,1); sheet(1,0,0)=1; lays(1)=NONE; sheet(1,0,5)=1; lays(1)=NONE;"
            + "told(3)=0");
        ON.edge("28: all 0, those of one ahead, too", "bit(0,0,9); sheet(0,8,24); put(0,0,5); put(0,23,5); sheet(0,8,24)=1; lays(0)=1;"
            + "bitIs(0,3)=0; move(0,23,0,0,1)=1; lay(0,9); lays(0)=1; bitIs(0,3)=0");
        ON.edge("28: all 0 behind fewer, and more again", "bit(0,0,9); sheet(0,8,3); put(0,2,5); sheet(0,8,1)=1; sheet(0,8,3)=1;"
            + "move(0,2,0,0,1)=1; lays(0)=1; bitIs(0,3)=0");
        ON.edge("28: all 0 behind other bits", "bit(0,0,9); sheet(0,32,1); put(0,0,5); sheet(0,16,1)=1; lays(0)=1; bitIs(0,3)=0;"
            + "put(0,0,65540); lays(0)=1; bitIs(0,3)=4");
        ON.edge("28: all 0 behind missing", "bit(0,0,9); sheet(0,8,1); put(0,0,5); sheet(0,0,0)=1; sheet(0,8,1)=1; lays(0)=1;"
            + "bitIs(0,3)=0");
        ON.edge("28: one, not its neighbours", "bit(0,0,0); sheet(0,8,24); sheet(1,8,24); sheet(2,8,24); put(0,23,5); put(2,0,6);"
            + "sheet(1,8,24)=1; move(0,23,1,0,1)=1;"
            + "lays(1); bitIs(0,3)=5; lays(2); bitIs(0,3)=6");
        ON.refused("28, BEYOND: no such SHEET, ahead of STATE", WORLD, "sheet(-1,8,1)=BEYOND", "sheet(4,8,1)=BEYOND",
            "sheet(4,8,-1)=BEYOND", "sheet(-1,0,0)=BEYOND",
            "sheet(4,0,0)=BEYOND", "sheet(MIN,8,-1)=BEYOND", "sheet(MAX,8,1)=BEYOND");
        ON.refused("28, BEYOND: no such bits, ahead of STATE", WORLD, "sheet(0,-1,1)=BEYOND", "sheet(0,1,1)=BEYOND", "sheet(0,7,1)=BEYOND",
            "sheet(0,9,1)=BEYOND",
            "sheet(0,15,1)=BEYOND", "sheet(0,17,1)=BEYOND", "sheet(0,24,1)=BEYOND", "sheet(0,31,1)=BEYOND", "sheet(0,33,1)=BEYOND",
            "sheet(0,64,1)=BEYOND",
            "sheet(0,-8,1)=BEYOND", "sheet(0,7,-1)=BEYOND", "sheet(0,MIN,-1)=BEYOND", "sheet(0,MAX,-1)=BEYOND");
    }

    private static void put() {
        String one = "bit(0,0,7); sheet(0,8,1); sheet(1,16,1); sheet(2,32,1);";
        ON.edge("29: the first and the last number", "2*bit(0,0,7); sheet(3,8,2); put(3,0,5)=1; put(3,1,6)=1; lays(3)=2; bitIs(0,3)=5;"
            + "bitIs(1,3)=6");
        ON.edge("29: the lowest 8 bits", one + "put(0,0,261)=1; lays(0)=1; bitIs(0,3)=5; put(0,0,-250)=1; lays(0)=1; bitIs(0,3)=6;"
            + "put(0,0,MIN)=1; lays(0)=1; bitIs(0,3)=0;"
            + "put(0,0,MAX)=1; lays(0)=0; put(0,0,255)=1; lays(0)=0; put(0,0,128)=1; lays(0)=0; put(0,0,127)=1; lays(0)=0; put(0,0,256)=1;"
            + "lays(0)=1");
        ON.edge("29: the lowest 16 bits", one + "put(1,0,65541)=1; lays(1)=1; bitIs(0,3)=5; put(1,0,-65530)=1; lays(1)=1; bitIs(0,3)=6;"
            + "put(1,0,MIN)=1; lays(1)=1; bitIs(0,3)=0;"
            + "put(1,0,261)=1; lays(1)=0; put(1,0,65535)=1; lays(1)=0; put(1,0,32768)=1; lays(1)=0; put(1,0,65536)=1; lays(1)=1");
        ON.edge("29: all 32 bits", one + "put(2,0,65541)=1; lays(2)=0; put(2,0,MIN)=1; lays(2)=0; put(2,0,MAX)=1; lays(2)=0; put(2,0,-1)=1;"
            + "lays(2)=0; put(2,0,9)=1; lays(2)=1; bitIs(0,3)=9");
        ON.refused("29, no such SHEET", WORLD, "put(-1,0,1)=BEYOND", "put(4,0,1)=BEYOND", "put(MIN,0,1)=BEYOND", "put(MAX,0,1)=BEYOND");
        ON.refused("29, it is missing", WORLD, "put(3,0,1)=NONE");
        ON.refused("29, no such number", WORLD, "put(0,-1,1)=BEYOND", "put(0,24,1)=BEYOND", "put(1,3,1)=BEYOND", "put(2,2,1)=BEYOND",
            "put(0,MIN,1)=BEYOND", "put(0,MAX,1)=BEYOND");
        ON.refused("29, no such number, of none", WORLD + "sheet(1,16,0);", "put(1,0,1)=BEYOND", "put(1,-1,1)=BEYOND");
        ON.refused("29, no such SHEET ahead of no such number", WORLD, "put(4,-1,1)=BEYOND");
        ON.refused("29, missing ahead of no such number", WORLD, "put(3,-1,1)=NONE", "put(3,24,1)=NONE", "put(3,MAX,1)=NONE");
        ON.refused("29, missing again", WORLD + "sheet(0,0,24);", "put(0,0,1)=NONE", "put(0,24,1)=NONE");
    }

    private static void move() {
        String five = "8*bit(0,0,7); sheet(0,8,5); put(0,0,1); put(0,1,2); put(0,2,3); put(0,3,4); put(0,4,5); sheet(3,8,3); put(3,0,6);"
            + "put(3,1,7); put(3,2,8);";
        ON.edge("30: all, to the lowest and from the highest SHEET", five + "move(3,0,0,0,3)=3;" + laid(0, 6, 7, 8, 4, 5) + laid(3, 6, 7,
            8));
        ON.edge("30: the last one", five + "move(3,2,0,4,1)=1;" + laid(0, 1, 2, 3, 4, 8) + laid(3, 6, 7, 8));
        ON.edge("30: the first one", five + "move(0,0,3,0,1)=1;" + laid(3, 1, 7, 8) + laid(0, 1, 2, 3, 4, 5));
        ON.edge("30: none", five + "move(0,0,3,0,0)=0; move(0,5,3,3,0)=0; move(0,5,0,5,0)=0;" + laid(3, 6, 7, 8) + laid(0, 1, 2, 3, 4, 5));
        ON.edge("30: none, of none", "sheet(0,8,0); sheet(1,8,0); move(0,0,1,0,0)=0; move(0,0,1,0,1)=BEYOND");
        ON.edge("30: as they all were, onward by one", five + "move(0,0,0,1,4)=4;" + laid(0, 1, 1, 2, 3, 4));
        ON.edge("30: as they all were, back by one", five + "move(0,1,0,0,4)=4;" + laid(0, 2, 3, 4, 5, 5));
        ON.edge("30: as they all were, onward by two", five + "move(0,0,0,2,3)=3;" + laid(0, 1, 2, 1, 2, 3));
        ON.edge("30: as they all were, back by two", five + "move(0,2,0,0,3)=3;" + laid(0, 3, 4, 5, 4, 5));
        ON.edge("30: to where they are", five + "move(0,0,0,0,5)=5;" + laid(0, 1, 2, 3, 4, 5));
        ON.edge("30: 24 numbers", "bit(0,0,7); sheet(0,32,24); sheet(1,32,24); put(0,23,5); move(0,0,1,0,24)=24; move(1,23,1,0,1)=1;"
            + "lays(1)=1; bitIs(0,3)=5");
        ON.edge("30: of 16, of 32 bits", "bit(0,0,7); sheet(0,16,1); sheet(1,16,1); sheet(2,32,1); sheet(3,32,1); put(0,0,5); put(2,0,6);"
            + "move(0,0,1,0,1)=1; move(2,0,3,0,1)=1; lays(1); bitIs(0,3)=5; lays(3); bitIs(0,3)=6");
        ON.refused("30, no such SHEET", WORLD, "move(-1,0,0,0,1)=BEYOND", "move(4,0,0,0,1)=BEYOND", "move(0,0,-1,0,1)=BEYOND",
            "move(0,0,4,0,1)=BEYOND",
            "move(MIN,0,0,0,1)=BEYOND", "move(0,0,MAX,0,1)=BEYOND");
        ON.refused("30, no such SHEET ahead of missing", WORLD, "move(4,0,3,0,1)=BEYOND", "move(3,0,4,0,1)=BEYOND",
            "move(3,0,-1,0,1)=BEYOND", "move(-1,0,3,0,1)=BEYOND");
        ON.refused("30, one is missing", WORLD, "move(3,0,0,0,1)=NONE", "move(0,0,3,0,1)=NONE", "move(3,0,3,0,0)=NONE");
        ON.refused("30, missing ahead of unlike bits, of what doesn't stand there", WORLD, "move(3,0,1,0,1)=NONE", "move(1,0,3,0,1)=NONE",
            "move(3,-1,0,0,1)=NONE", "move(0,0,3,0,-1)=NONE", "move(0,0,3,24,1)=NONE");
        ON.refused("30, unlike bits", WORLD, "move(0,0,1,0,1)=KIND", "move(1,0,0,0,1)=KIND", "move(1,0,2,0,0)=KIND");
        ON.refused("30, unlike bits, 32", WORLD + "sheet(3,32,2);", "move(3,0,0,0,1)=KIND", "move(3,0,1,0,1)=KIND", "move(0,0,3,0,1)=KIND",
            "move(1,0,3,0,1)=KIND");
        ON.refused("30, unlike bits ahead of what doesn't stand there", WORLD, "move(0,-1,1,0,1)=KIND", "move(0,0,1,-1,1)=KIND",
            "move(0,0,1,0,-1)=KIND", "move(0,0,1,3,1)=KIND", "move(0,MAX,1,MAX,MAX)=KIND");
        ON.refused("30, below 0", WORLD, "move(0,-1,2,0,1)=BEYOND", "move(0,0,2,-1,1)=BEYOND", "move(0,0,2,0,-1)=BEYOND",
            "move(0,-1,2,0,0)=BEYOND", "move(0,0,2,-1,0)=BEYOND",
            "move(0,MIN,2,0,1)=BEYOND", "move(0,0,2,MIN,1)=BEYOND", "move(0,0,2,0,MIN)=BEYOND", "move(0,-1,0,0,2)=BEYOND");
        ON.refused("30, they don't stand there", WORLD, "move(2,0,0,0,3)=BEYOND", "move(2,1,0,0,2)=BEYOND", "move(2,2,0,0,1)=BEYOND",
            "move(2,3,0,0,0)=BEYOND", "move(0,24,2,0,1)=BEYOND", "move(0,25,2,0,0)=BEYOND");
        ON.refused("30, they don't stand in the other one", WORLD, "move(0,0,2,0,3)=BEYOND", "move(0,0,2,1,2)=BEYOND",
            "move(0,0,2,2,1)=BEYOND", "move(0,0,2,3,0)=BEYOND", "move(0,0,0,1,24)=BEYOND", "move(0,0,0,24,1)=BEYOND");
        ON.refused("30, sums that wrap around", WORLD, "move(0,1,2,0,MAX)=BEYOND", "move(0,MAX,2,0,1)=BEYOND", "move(0,0,2,MAX,1)=BEYOND",
            "move(0,MAX,2,MAX,MAX)=BEYOND", "move(0,MAX,2,0,MAX)=BEYOND", "move(0,MAX,0,MAX,0)=BEYOND");
    }

    /** A SHEET has just these numbers, which are PLACES. */
    private static String laid(int sheet, int... numbers) {
        StringBuilder s = new StringBuilder("lays(" + sheet + ")=" + numbers.length + ";");
        for (int i = 0; i < numbers.length; i++) s.append("bitIs(" + i + ",3)=" + numbers[i] + ";");
        return s.append("put(" + sheet + "," + numbers.length + ",0)=BEYOND;").toString();
    }

    private static void lays() {
        ON.edge("31: no numbers", "bit(0,0,7); sheet(0,8,0); lays(0)=0; bitIs(0,3)=7");
        ON.edge("31: the lowest and the highest PLACE", "2*bit(0,0,7); sheet(0,8,2); put(0,0,9); lays(0)=2; bitIs(0,3)=9; bitIs(1,3)=0");
        ON.edge("31: fewer numbers than BITS", "3*bit(0,0,7); sheet(3,32,2); lays(3)=2; bitIs(0,3)=0; bitIs(1,3)=0; bitIs(2,3)=7");
        ON.edge("31: more numbers than BITS", "bit(0,0,7); sheet(0,8,24); put(0,1,5); lays(0)=1; bitIs(0,3)=0; bit(0,0,7); lays(0)=2;"
            + "bitIs(1,3)=5; told(1)=0; told(2)=0");
        ON.edge("31: without BITS", "sheet(0,8,24); lays(0)=0;" + NO_ERRORS);
        ON.edge("31: 24 numbers, 8 BITS", "8*bit(0,0,7); sheet(0,8,24); lays(0)=8; bitIs(7,3)=0");
        ON.edge("31: the first is no PLACE", "2*bit(0,0,7); sheet(0,8,2); put(0,0,10); lays(0)=0; bitIs(0,3)=7; bitIs(1,3)=7;" + NO_ERRORS);
        ON.edge("31: up to one that is no PLACE", "3*bit(0,0,7); sheet(0,32,3); put(0,1,-1); lays(0)=1; bitIs(0,3)=0; bitIs(1,3)=7;"
            + "bitIs(2,3)=7; put(0,1,10); lay(0,7); lays(0)=1; bitIs(1,3)=7;"
            + "put(0,1,MIN); lays(0)=1; put(0,1,MAX); lays(0)=1; put(0,1,9); lays(0)=3; bitIs(1,3)=9; bitIs(2,3)=0;" + NO_ERRORS);
        ON.refused("31", WORLD, "lays(-1)=BEYOND", "lays(4)=BEYOND", "lays(MIN)=BEYOND", "lays(MAX)=BEYOND", "lays(3)=NONE");
        ON.refused("31, missing again", WORLD + "sheet(0,0,24);", "lays(0)=NONE");
    }

    private static void judge() {
        ON.edge("32: no numbers", "bit(0,0,0); sheet(0,8,0); judge(0)=0");
        ON.edge("32: the lowest and the highest it WARMS", ROW + "bit(0,0,0); bit(0,0,9); sheet(0,8,2); put(0,0,9); judge(0)=2; put(0,0,8);"
            + "judge(0)=0");
        ON.edge("32: none right", ROW + "bit(0,0,5); sheet(0,8,1); put(0,0,3); judge(0)=0; put(0,0,5); judge(0)=0; put(0,0,4); judge(0)=1");
        ON.edge("32: the last one wrong", ROW + "3*bit(0,0,5); sheet(0,8,3); put(0,0,4); put(0,1,4); judge(0)=2; put(0,2,4); judge(0)=3");
        ON.edge("32: fewer numbers than BITS", "3*bit(0,0,0); sheet(3,32,1); put(3,0,9); judge(3)=1");
        ON.edge("32: fewer numbers than BITS, the next one WARMS 0", "bit(0,0,0); 7*bit(0,0,5); sheet(0,8,1); put(0,0,9); judge(0)=1;"
            + "sheet(0,8,0); lay(0,5); judge(0)=0");
        ON.edge("32: more numbers than BITS", "bit(0,0,0); sheet(0,8,24); put(0,0,9); judge(0)=1; bit(0,0,5); judge(0)=2;" + NO_ERRORS);
        ON.edge("32: without BITS", "sheet(0,8,24); judge(0)=0;" + NO_ERRORS);
        ON.edge("32: 24 numbers, 8 BITS", "8*bit(0,0,5); sheet(0,8,24); judge(0)=8; put(0,7,1); judge(0)=7");
        ON.edge("32: lowest bits", "bit(0,0,0); sheet(0,8,1); put(0,0,265); judge(0)=1; sheet(0,16,1); put(0,0,265); judge(0)=0;"
            + "put(0,0,65545); judge(0)=1; sheet(0,32,1); put(0,0,65545); judge(0)=0");
        ON.refused("32", WORLD, "judge(-1)=BEYOND", "judge(4)=BEYOND", "judge(MIN)=BEYOND", "judge(MAX)=BEYOND", "judge(3)=NONE");
        ON.refused("32, missing again", WORLD + "sheet(0,0,24);", "judge(0)=NONE");
        ON.same("32: all stays as it is", WORLD, WORLD + "judge(0); judge(1); judge(2)");
    }

    private static void image() {
        ON.edge("33: how often", "image()=1; image()=2; image()=3; 97*image(); image()=101");
        ON.edge("33: how often isn't kept", "image()=1; image()=2; restore(); image()=3; restore(); restore(); image()=4");
        ON.edge("33: of a new object", "image()=1; bit(0,0,0); opens(0,1,1); day(5); seed(5); field(0,5); 0'2'; feed(0,1); tell(1);"
            + "restore()=0; count(0)=0; far(0,1)=NONE; count(1)=0; count(6)=1;"
            + "field(0,0)=0; untell(0)=0; count(3)=0; count(4)=0");
        ON.edge("33: in place of one ahead", "day(5); image()=1; day(7); image()=2; day(9); restore()=7; count(1)=7");
        ON.edge("33: of a full one", "8*bit(69,3,9); 7*feed(0x31,8); feed(0x31,4); 24*tell(5); day(9999); image()=1; text(0); check();"
            + "become(7,0); day(0); restore()=9999; count(0)=8; count(3)=60; count(4)=24;"
            + "bitIs(7,0)=6; bitIs(7,1)=9; tell(0)=FULL; feed(0,1)=FULL; bit(0,0,0)=FULL");
        ON.same("33: all but the IMAGE stays as it is", WORLD + "image()", WORLD + "restore();" + BACK_FROM_IMAGE + "image()");
    }

    private static void restore() {
        ON.refused("34, there is none", "bit(0,0,5); day(5); seed(5); 0'2'; '1'; tell(1);", "restore()=NONE");
        ON.edge("34: DAY, the lowest and the highest", "image(); day(5); restore()=0; day(9999); image(); day(5); restore()=9999");
        ON.edge("34: the IMAGE stays", "bit(0,0,5); day(7); image(); day(1); lay(0,1); restore()=7; lay(0,2); day(2); restore()=7;"
            + "bitIs(0,3)=5; count(1)=7");
        ON.edge("34: what changes behind restore doesn't change the IMAGE", "bit(0,0,5); 0'2'; '1'; tell(1); opens(0,1,1); image();"
            + "restore(); 3*bit(0,0,0); untell(0); text(0); check(); opens(0,1,0); field(0,9); days(3); loose(3); restore()=0;"
            + "count(0)=1; untell(0)=1; count(3)=1; count(4)=1; far(0,1)=1; field(0,0)=0; count(6)=1; bitIs(0,4)=0");
        ON.edge("34: SHEETS stay", "bit(0,0,5); sheet(0,8,1); put(0,0,3); image(); put(0,0,4); sheet(1,8,1); restore(); lays(0)=1;"
            + "bitIs(0,3)=4; lays(1)=1; sheet(0,0,0); restore(); lays(0)=NONE");
        ON.edge("34: THE TRACE stays", "bit(0,0,5); voice(0,0,1); image(); voice(0,1,1); restore(); count(5)=2; body(0)=11");
        ON.edge("34: what told() tells stays", "far(0,1)=NONE; image(); far(0,1)=NONE; day(-1)=BEYOND; restore()=0; told(2)=2; told(1)=1");
        ON.edge("34: HEARD, m, KIND, FIELD of BITS, and fewer of them", "bit(42,3,5); hears(0,9); image(); become(0,10); hears(0,0);"
            + "7*bit(0,0,0); restore(); count(0)=1; bitIs(0,0)=4; bitIs(0,1)=2; bitIs(0,2)=3; bitIs(0,4)=9; bitIs(1,0)=BEYOND;"
            + "bit(10,0,0)=1; bitIs(1,4)=0");
        ON.edge("34: more of BITS", "8*bit(42,3,5); image(); restore(); count(0)=8; day(3); restore(); bitIs(7,0)=4");
        ON.edge("34: no TEXT in the IMAGE", "image(); 0'2'; 1'9'; restore(); law(0,1,0,0)=1; law(1,1,0,0)=1; untell(0)=0; untell(1)=0");
        ON.edge("34: a TEXT of 60 bytes in the IMAGE", "1'" + "1+".repeat(29) + "11'=1; image(); 1'3'; restore(); law(1,0,0,0)=40;"
            + "untell(1); restore(); law(1,0,0,0)=40");
    }

    private static void tell() {
        ON.edge("35: the first and the 24th", "tell(0)=1; 22*tell(0); tell(0)=24; count(4)=24");
        ON.edge("35: any number", "8*bit(0,0,0); tell(MIN)=1; tell(MAX)=2; tell(BEYOND)=3; tell(-1)=4;" + NO_ERRORS);
        ON.refused("35, 24 wait", WORLD + "21*tell(0);", "tell(0)=FULL", "tell(MIN)=FULL");
        ON.edge("35: again behind check", "24*tell(0); tell(0)=FULL; check()=1; tell(0)=1; 22*tell(0); tell(0)=24; tell(0)=FULL;"
            + "told(4)=2");
    }

    private static void check() {
        ON.edge("36: none waits", "check()=0; bit(0,0,0); check()=0; tell(0); check()=0; check()=0");
        ON.edge("36: one that is so, one that isn't", "bit(0,0,7); tell(7); check()=0; tell(6); check()=1; tell(8); check()=1");
        ON.edge("36: the lowest and the highest PLACE", "bit(0,0,0); bit(0,0,9); tell(0); tell(9); check()=0");
        ON.edge("36: no PLACES", "bit(0,0,0); tell(-1); check()=1; tell(10); check()=1; tell(MIN); check()=1; tell(MAX); check()=1;"
            + "tell(256); check()=1; tell(65536); check()=1;" + NO_ERRORS);
        ON.edge("36: all of 8", "8*bit(0,0,5); 8*tell(5); check()=0; count(4)=0; 7*tell(5); tell(6); check()=8");
        ON.edge("36: one for which there is none of BITS", "tell(0); check()=1; 8*bit(0,0,5); 9*tell(5); check()=9; 24*tell(5); check()=9;"
            + NO_ERRORS);
        ON.edge("36: the first of several", "4*bit(0,0,5); tell(5); tell(6); tell(5); tell(6); check()=2");
        ON.edge("36: fewer than BITS", "8*bit(0,0,5); lay(7,6); tell(5); check()=0");
        ON.edge("36: none waits then, be it so or not", "bit(0,0,5); tell(5); check()=0; count(4)=0; tell(6); tell(6); check()=1;"
            + "count(4)=0; check()=0");
        ON.same("36: all else stays as it is", WORLD + "check()", WORLD + "check(); 9*tell(7); check()");
    }

    private static void count() {
        ON.edge("37: the lowest and the highest what", "8*bit(0,0,5); seed(MIN); count(0)=8; count(6)=MIN; seed(MAX); count(6)=MAX");
        ON.edge("37: z is no ERROR", "seed(BEYOND); count(6)=BEYOND; seed(PARTED); count(6)=PARTED;" + NO_ERRORS);
        ON.edge("37: DAY 9999", "day(9999); count(1)=9999");
        ON.edge("37: none HOME, all of 8 HOME", "8*bit(0,0,5); count(2)=0; field(0,5); count(2)=255");
        ON.edge("37: the first HOME, the last HOME", "8*bit(0,0,5); lay(0,0); count(2)=1; lay(7,0); count(2)=129; lay(0,5); count(2)=128");
        ON.refused("37", WORLD, "count(-1)=BEYOND", "count(7)=BEYOND", "count(MIN)=BEYOND", "count(MAX)=BEYOND");
        ON.same("37: all stays as it is", WORLD, WORLD + "count(0); count(1); count(2); count(3); count(4); count(5); count(6)");
    }

    private static void told() {
        ON.edge("38: the lowest and the highest k", "told(1)=0; told(6)=0; bit(0,0,0); voice(0,3,0)=PARTED; told(6)=1; told(7)=BEYOND;"
            + "told(1)=1");
        ON.edge("38: another k is counted, too", "told(0)=BEYOND; told(1)=1; told(7)=BEYOND; told(1)=2; told(-1)=BEYOND; told(MIN)=BEYOND;"
            + "told(MAX)=BEYOND; told(1)=5; told(2)=0");
        ON.edge("38: each by its own k", "far(0,10)=BEYOND; 2*far(0,1)=NONE; 3*odds(0,0)=STATE; 24*tell(0); 4*tell(0)=FULL; bit(0,0,0);"
            + "5*as(0,1)=KIND; 6*voice(0,3,0)=PARTED;"
            + "told(1)=1; told(2)=2; told(3)=3; told(4)=4; told(5)=5; told(6)=6");
        ON.edge("38: answers below 0 that are no ERRORS", "text(0)=-10; bit(9,0,0); voice(0,0,-5)=-5; seed(-7); count(6)=-7;" + NO_ERRORS);
        ON.refused("38", WORLD, "told(0)=BEYOND", "told(7)=BEYOND", "told(-1)=BEYOND", "told(MIN)=BEYOND", "told(MAX)=BEYOND");
        ON.same("38: all stays as it is", WORLD, WORLD + "told(1); told(2); told(3); told(4); told(5); told(6)");
    }

    public static void main(String[] args) {
        voice();
        bodies();
        parted();
        body();
        sheet();
        put();
        move();
        lays();
        judge();
        image();
        restore();
        tell();
        check();
        count();
        told();
        ON.end();
    }
}
