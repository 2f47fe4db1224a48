/** The edges of promises 19 to 25: what is only thought. */
public final class ThoughtEdgeTest {
    private static final Edges ON = new Edges();
    private static final String WORLD = Edges.WORLD;
    private static final String ROW = Edges.ROW;
    private static final String EIGHT = WORLD + "bit(0,0,0)=7;";
    /** 8 BITS that are not HOME, each WORTH as much as there can be. */
    private static final String RICH = ROW + "8*bit(60,0,9); 1'99';";

    private static void then() {
        ON.edge("19: n 0 is now", ROW + "bit(0,0,9); then(0,0)=9");
        ON.edge("19: n 1", ROW + "bit(0,0,9); then(0,1)=8");
        ON.edge("19: n 60", ROW + "bit(0,0,9); 0'd=0'; then(0,56)=1; then(0,57)=0; then(0,60)=0");
        ON.edge("19: n 60, no STEPS", ROW + "bit(60,0,9); then(0,60)=9");
        ON.edge("19: the last day of 60", ROW + "bit(0,0,9); 0'd=0'; day(4); then(0,59)=1; then(0,60)=0");
        ON.edge("19: HOME and beyond it", ROW + "bit(0,0,2); then(0,1)=1; then(0,2)=0; then(0,3)=0");
        ON.edge("19: the last of 8", ROW + "7*bit(60,0,5); bit(0,0,5); then(7,2)=3; then(6,2)=5");
        ON.edge("19: DAY beyond 9999", ROW + "bit(10,0,9); day(9999); then(0,1)=9; then(0,2)=8; then(0,3)=8; then(0,4)=7; count(1)=9999");
        ON.edge("19: d of DAY 10000", ROW + "bit(0,0,9); 0'd'; day(9999); then(0,1)=6; then(0,2)=3; 0'd=4'; then(0,1)=9; then(0,2)=8");
        ON.edge("19: without a WAY", "bit(0,0,9); then(0,60)=9");
        ON.same("19: all stays as it is", WORLD, WORLD + "then(0,0); then(1,1); then(6,60); day(9999); then(2,60); day(78)");
        ON.refused("19", WORLD, "then(-1,0)=BEYOND", "then(7,0)=BEYOND", "then(0,-1)=BEYOND", "then(0,61)=BEYOND",
            "then(MIN,0)=BEYOND", "then(MAX,60)=BEYOND", "then(6,MIN)=BEYOND", "then(6,MAX)=BEYOND");
        ON.refused("19, with 8 of BITS", EIGHT, "then(8,0)=BEYOND", "then(7,61)=BEYOND");
        ON.refused("19, without BITS", "", "then(0,0)=BEYOND", "then(0,61)=BEYOND");
    }

    private static void soonest() {
        ON.edge("20: behind 0 DAYS", "bit(0,3,3); soonest(0)=0; bit(60,2,2); soonest(1)=0");
        ON.edge("20: behind 1 DAY", ROW + "bit(0,0,1); soonest(0)=1");
        ON.edge("20: behind 9 DAYS", ROW + "bit(0,0,9); soonest(0)=9");
        ON.edge("20: behind 59 DAYS", ROW + "bit(0,0,9); 0'd=0'; day(5); soonest(0)=59");
        ON.edge("20: behind 60 DAYS", ROW + "bit(0,0,9); 0'd=0'; day(4); soonest(0)=60");
        ON.refused("20, behind 61 DAYS", ROW + "bit(0,0,9); 0'd=0'; day(3);", "soonest(0)=NONE");
        ON.refused("20, never", WORLD, "soonest(6)=NONE", "soonest(5)=NONE");
        ON.refused("20, no STEPS", ROW + "bit(60,0,1);", "soonest(0)=NONE");
        ON.edge("20: the last of 8", ROW + "7*bit(60,0,5); bit(0,0,5); soonest(7)=5; soonest(6)=NONE");
        ON.edge("20: DAY beyond 9999", ROW + "bit(10,0,2); day(9999); soonest(0)=4; count(1)=9999; day(9998); soonest(0)=3");
        ON.same("20: all stays as it is", WORLD, WORLD + "soonest(0); soonest(1); soonest(2)=1; soonest(4)");
        ON.refused("20", WORLD, "soonest(-1)=BEYOND", "soonest(7)=BEYOND", "soonest(MIN)=BEYOND", "soonest(MAX)=BEYOND");
        ON.refused("20, with 8 of BITS", EIGHT, "soonest(8)=BEYOND");
        ON.refused("20, without BITS", "", "soonest(0)=BEYOND");
    }

    private static void gets() {
        ON.edge("21: without BITS", "gets(0,0)=0; gets(3,60)=0");
        ON.edge("21: the lowest and the highest FIELD", "bit(5,0,0); bit(69,3,3); gets(0,0)=15; gets(3,0)=57; gets(1,0)=0; gets(2,0)=0");
        ON.edge("21: n 0 is now", ROW + "bit(5,0,1); bit(7,0,0); gets(0,0)=17; gets(0,1)=32");
        ON.edge("21: n 60", ROW + "bit(5,0,9); 0'd=0'; day(4); gets(0,59)=0; gets(0,60)=15; day(3); gets(0,60)=0");
        ON.edge("21: the most, of all 8", RICH + "gets(0,60)=0; 8*bit(0,0,0)=FULL; field(0,9); gets(0,0)=792; gets(0,60)=792");
        ON.edge("21: OF it, not of another FIELD at that PLACE", "field(1,0); bit(5,0,0); bit(7,1,0); gets(0,0)=15; gets(1,0)=17");
        ON.edge("21: AT that PLACE, but OF another FIELD", "bit(5,0,1); gets(0,0)=0; gets(1,0)=0");
        ON.edge("21: WORTH as it is then, y wraps around", "bit(0,0,0); 1'y'; gets(0,0)=0; gets(0,9)=9; gets(0,10)=0; gets(0,60)=0;"
            + "gets(0,59)=9");
        ON.edge("21: DAY beyond 9999", "bit(0,0,0); 1'y'; day(9999); gets(0,0)=9; gets(0,1)=0; gets(0,2)=1; count(1)=9999");
        ON.same("21: all stays as it is", WORLD, WORLD + "gets(0,0); gets(1,1); gets(2,60); gets(3,30)");
        ON.refused("21", WORLD, "gets(-1,0)=BEYOND", "gets(4,0)=BEYOND", "gets(0,-1)=BEYOND", "gets(0,61)=BEYOND",
            "gets(MIN,0)=BEYOND", "gets(MAX,60)=BEYOND", "gets(3,MIN)=BEYOND", "gets(3,MAX)=BEYOND");
    }

    private static void carry() {
        ON.edge("22: v 0, without BITS", "carry(0,0,0)=0; carry(3,0,30)=0");
        ON.edge("22: v 0, with BITS", RICH + "carry(0,0,0)=0; carry(0,0,30)=0");
        ON.edge("22: v 1", RICH + "carry(0,1,0)=1; carry(0,1,30)=1");
        ON.edge("22: just as much, and 1 more", RICH + "carry(0,99,0)=1; carry(0,100,0)=3; carry(0,198,0)=3; carry(0,199,0)=7");
        ON.edge("22: all but one", RICH + "carry(0,693,0)=127; carry(0,693,30)=127");
        ON.edge("22: all", RICH + "carry(0,694,0)=255; carry(0,792,0)=255; carry(0,792,30)=255");
        ON.refused("22, not with all", RICH, "carry(0,793,0)=NONE", "carry(0,999,30)=NONE", "carry(1,1,0)=NONE");
        ON.refused("22, without BITS", "", "carry(0,1,0)=NONE", "carry(3,999,30)=NONE", "carry(4,0,0)=BEYOND", "carry(0,1000,0)=BEYOND");
        ON.edge("22: one that is HOME isn't to be carried", "bit(0,0,0); bit(0,0,5); carry(0,10,0)=0; carry(0,20,0)=2; carry(0,21,0)=NONE");
        ON.edge("22: one that comes HOME by n isn't to be carried", ROW + "bit(0,0,3); carry(0,10,2)=1; carry(0,10,3)=0; carry(0,10,30)=0");
        ON.edge("22: n 0", ROW + "bit(0,0,1); carry(0,10,0)=1; carry(0,10,1)=0");
        ON.edge("22: n 30", ROW + "bit(0,0,5); 0'd=0'; day(6); carry(0,10,30)=0; carry(0,10,29)=1; day(5); carry(0,10,30)=1");
        ON.edge("22: the fewest, though others are less", "2*bit(0,0,5); bit(60,0,5); carry(0,20,0)=4; carry(0,30,0)=4; carry(0,31,0)=5;"
            + "carry(0,41,0)=7");
        ON.edge("22: of several the least", "bit(0,0,5); bit(9,0,5); bit(9,0,5); bit(0,0,5); carry(0,19,0)=2; carry(0,29,0)=3;"
            + "carry(0,38,0)=6");
        ON.edge("22: of several the least, not that of the least of BITS", "bit(0,0,5); 2*bit(5,0,5); bit(9,0,5); carry(0,29,0)=6;"
            + "become(2,4); carry(0,29,0)=6; become(2,3); carry(0,29,0)=9");
        ON.edge("22: those of other FIELDS aren't carried", "bit(0,1,5); bit(0,0,5); bit(0,1,5); carry(0,10,0)=2; carry(1,20,0)=5;"
            + "carry(0,11,0)=NONE");
        ON.edge("22: one carried leaves a POCKET alone", ROW + "bit(0,0,2); bit(30,0,2); carry(0,15,2)=0; carry(0,15,1)=3; carry(0,10,1)=1;"
            + "carry(0,5,1)=1; carry(0,5,2)=0");
        ON.edge("22: WORTH as it is then", "bit(0,0,5); 1'y'; carry(0,9,9)=1; carry(0,9,10)=NONE; carry(0,0,10)=0; day(9999);"
            + "carry(0,9,0)=1; carry(0,1,1)=NONE; carry(0,9,30)=1");
        ON.same("22: all stays as it is", WORLD, WORLD + "carry(0,40,0); carry(1,1,1); carry(2,1,30); carry(2,50,0)=64");
        ON.refused("22, BEYOND", WORLD, "carry(-1,0,0)=BEYOND", "carry(4,0,0)=BEYOND", "carry(0,-1,0)=BEYOND", "carry(0,1000,0)=BEYOND",
            "carry(0,0,-1)=BEYOND", "carry(0,0,31)=BEYOND", "carry(MIN,0,0)=BEYOND", "carry(MAX,0,0)=BEYOND", "carry(0,MIN,0)=BEYOND",
            "carry(0,MAX,0)=BEYOND", "carry(0,0,MIN)=BEYOND", "carry(0,0,MAX)=BEYOND");
        ON.refused("22, not with all, but n 31", RICH, "carry(0,999,31)=BEYOND", "carry(0,999,-1)=BEYOND", "carry(4,999,0)=BEYOND");
    }

    private static void way() {
        ON.edge("23: without BITS the first pair", "way(0,0)=1; way(0,1)=0; way(30,0)=1; way(30,1)=0");
        ON.edge("23: none HOME by any", "bit(0,0,5); way(0,0)=1; way(0,1)=0; bit(60,1,5); opens(0,1,1); way(0,0)=2");
        ON.edge("23: n 0", "bit(0,0,5); bit(0,3,3); way(0,0)=1; way(0,1)=1; way(1,0)=5; way(1,1)=2");
        ON.edge("23: n 30", "opens(1,2,1); opens(2,3,1); opens(3,4,1); opens(4,5,1); bit(0,0,5); 0'd=0'; day(6); way(30,0)=1; way(30,1)=1;"
            + "day(5); way(30,0)=2; way(30,1)=1; day(4); way(30,0)=2");
        ON.edge("23: the last pair", "field(0,9); bit(0,0,8); way(1,0)=89; way(1,1)=1");
        ON.edge("23: of several by the lesser PLACE", "bit(0,0,5); bit(0,1,6); way(1,0)=5; way(1,1)=1");
        ON.edge("23: of several by the greater PLACE", "bit(0,0,6); bit(0,0,5); way(1,0)=5; way(1,1)=1; opens(0,5,1); way(1,0)=6;"
            + "way(1,1)=2");
        ON.edge("23: that by which most are HOME, though later", "bit(0,0,5); 2*bit(0,1,6); way(1,0)=16; way(1,1)=2");
        ON.edge("23: all 8", "8*bit(0,0,5); way(0,1)=0; way(1,1)=8; way(1,0)=5; way(30,1)=8");
        ON.edge("23: a pair with a WAY is none of them", "opens(0,1,1); way(0,0)=2; opens(0,2,1); way(5,0)=3; bit(0,0,1); way(1,0)=3;"
            + "way(1,1)=1");
        ON.edge("23: HOME without a new WAY, the first pair", "opens(0,5,1); bit(0,0,5); way(1,0)=1; way(1,1)=1; way(0,1)=0");
        ON.edge("23: a new WAY may lead by the lesser PLACE", "field(0,9); opens(5,7,1); opens(7,9,1); opens(6,9,1); bit(0,0,5);"
            + "way(2,0)=1; way(1,0)=59; way(1,1)=1");
        ON.edge("23: DAY beyond 9999", "bit(10,0,5); day(9999); way(1,1)=0; way(2,1)=1; way(2,0)=5; count(1)=9999");
        ON.edge("23: but one pair", Edges.allWays() + "opens(8,9,0)=1; way(0,0)=89; way(0,1)=0; way(30,0)=89");
        ON.edge("23: but the first pair", Edges.allWays() + "opens(0,1,0)=1; way(0,0)=1; bit(0,0,1); way(1,1)=1; way(0,1)=0");
        ON.refused("23, a WAY between any two", Edges.allWays() + "bit(0,0,5);", "way(0,0)=NONE", "way(30,1)=NONE");
        ON.refused("23, BEYOND ahead of NONE", Edges.allWays(), "way(-1,0)=BEYOND", "way(31,0)=BEYOND", "way(0,-1)=BEYOND",
            "way(0,2)=BEYOND");
        ON.refused("23, BEYOND", WORLD, "way(-1,0)=BEYOND", "way(31,0)=BEYOND", "way(0,-1)=BEYOND", "way(0,2)=BEYOND",
            "way(MIN,0)=BEYOND", "way(MAX,1)=BEYOND", "way(30,MIN)=BEYOND", "way(30,MAX)=BEYOND");
        ON.same("23: all stays as it is", WORLD, WORLD + "way(0,0); way(1,1); way(30,0); way(5,1)");
    }

    private static void odds() {
        ON.edge("24: 0 is 0 by 1, of one", "bit(0,0,5); odds(0,0)=0; odds(0,1)=1; odds(60,0)=0; odds(60,1)=1");
        ON.edge("24: 0 is 0 by 1, of 8", "8*bit(0,0,5); odds(0,0)=0; odds(0,1)=1");
        ON.edge("24: all is 1 by 1", "bit(0,0,0); odds(0,0)=1; odds(0,1)=1; 7*bit(0,3,3); odds(60,0)=1; odds(60,1)=1");
        for (int home = 0; home <= 8; home++) {
            for (int bits = Math.max(1, home); bits <= 8; bits++) ON.edge("24: " + home + " of " + bits, oddsOf(home, bits));
        }
        ON.edge("24: n 0 is now, n 1", ROW + "bit(0,0,1); bit(0,0,2); bit(0,0,3); odds(0,0)=0; odds(1,0)=1; odds(1,1)=3; odds(2,0)=2;"
            + "odds(2,1)=3; odds(3,0)=1; odds(3,1)=1");
        ON.edge("24: n 60", ROW + "bit(0,0,9); bit(0,0,5); 0'd=0'; day(4); odds(59,0)=1; odds(59,1)=2; odds(60,0)=1; odds(60,1)=1; day(3);"
            + "odds(60,1)=2");
        ON.edge("24: DAY beyond 9999", ROW + "bit(10,0,1); day(9999); odds(1,0)=0; odds(2,0)=1; count(1)=9999");
        ON.refused("24, no BITS", "opens(0,1,1); image();", "odds(0,0)=STATE", "odds(60,1)=STATE");
        ON.refused("24, no BITS, BEYOND ahead of STATE", "opens(0,1,1); image();", "odds(-1,0)=BEYOND", "odds(61,0)=BEYOND",
            "odds(0,-1)=BEYOND", "odds(0,2)=BEYOND");
        ON.refused("24, BEYOND", WORLD, "odds(-1,0)=BEYOND", "odds(61,0)=BEYOND", "odds(0,-1)=BEYOND", "odds(0,2)=BEYOND",
            "odds(MIN,0)=BEYOND", "odds(MAX,1)=BEYOND", "odds(60,MIN)=BEYOND", "odds(60,MAX)=BEYOND");
        ON.same("24: all stays as it is", WORLD, WORLD + "odds(0,0); odds(1,1); odds(60,0); odds(60,1)");
    }

    /** What part of BITS is HOME, in lowest terms, found by trying all lesser lines below. */
    private static String oddsOf(int home, int bits) {
        int below = 1;
        while (home * below % bits != 0) below++;
        StringBuilder s = new StringBuilder();
        for (int b = 0; b < bits; b++) s.append("bit(0,2," + (b < home ? 2 : 7) + ");");
        return s.append("odds(0,0)=" + home * below / bits + "; odds(0,1)=" + below).toString();
    }

    private static void whose() {
        ON.edge("25: of no numbers all FIELDS", "bit(0,0,0); sheet(0,8,0); whose(0,0,0)=15; whose(0,0,1)=4");
        ON.edge("25: none", "bit(0,0,0); sheet(0,8,1); put(0,0,5); whose(0,0,0)=0; whose(0,0,1)=0");
        ON.edge("25: number 0 is behind 0 DAYS", ROW + "bit(0,1,5); sheet(0,8,1); put(0,0,4); whose(0,0,0)=1; put(0,0,5); whose(0,0,0)=2;"
            + "put(0,0,6); whose(0,0,0)=4; put(0,0,7); whose(0,0,0)=8; put(0,0,8); whose(0,0,0)=0; put(0,0,3); whose(0,0,0)=0");
        ON.edge("25: number 1 is behind 1 DAY", ROW + "bit(0,1,5); sheet(0,8,2); put(0,0,4); put(0,1,5); whose(0,0,0)=1; put(0,1,4);"
            + "whose(0,0,0)=0; put(0,1,6); whose(0,0,0)=0");
        ON.edge("25: the lowest and the highest FIELD", "bit(0,1,0); sheet(0,8,1); put(0,0,9); whose(0,0,0)=1; lay(0,3); whose(0,0,0)=8;"
            + "whose(0,0,1)=1");
        ON.edge("25: all but one", "bit(0,1,3); sheet(0,8,1); whose(0,0,0)=7; whose(0,0,1)=3");
        ON.edge("25: the lowest and the highest SHEET", "bit(0,0,3); sheet(0,8,1); sheet(3,32,1); put(3,0,9); whose(0,0,0)=7;"
            + "whose(3,0,0)=8");
        ON.edge("25: the last of 24 numbers", "bit(0,0,3); sheet(0,16,24); whose(0,0,0)=7; put(0,23,1); whose(0,0,0)=0; whose(0,0,1)=0");
        ON.edge("25: 24 numbers, the last DAY", ROW + "bit(0,3,3); lay(0,7); 0'(d=0)*1'; day(6); sheet(0,32,24); put(0,0,5); put(0,1,5);"
            + twentyFour() + "whose(0,0,0)=8; whose(0,0,1)=1; day(5); whose(0,0,0)=0; day(7); whose(0,0,0)=0");
        ON.edge("25: lowest bits of 8, 16", "bit(0,0,3); sheet(0,8,1); put(0,0,265); whose(0,0,0)=8; sheet(0,16,1); put(0,0,265);"
            + "whose(0,0,0)=0; put(0,0,65545); whose(0,0,0)=8;"
            + "sheet(0,32,1); put(0,0,65545); whose(0,0,0)=0; put(0,0,-247); whose(0,0,0)=0; put(0,0,9); whose(0,0,0)=8");
        ON.edge("25: numbers that nothing WARMS", "bit(0,0,3); sheet(0,8,1); put(0,0,-1); whose(0,0,0)=0; put(0,0,10); whose(0,0,0)=0;"
            + "sheet(0,32,1); put(0,0,MIN); whose(0,0,1)=0; put(0,0,MAX); whose(0,0,1)=0");
        ON.edge("25: its own FIELD doesn't matter, and stays", "bit(0,2,3); sheet(0,8,1); put(0,0,9); whose(0,0,0)=8; bitIs(0,2)=2");
        ON.edge("25: DAY beyond 9999", ROW + "bit(10,0,5); day(9999); sheet(0,8,3); put(0,0,4); put(0,1,4); put(0,2,5); whose(0,0,0)=1;"
            + "count(1)=9999");
        ON.refused("25, the SHEET is missing", WORLD, "whose(3,0,0)=NONE", "whose(3,6,1)=NONE");
        ON.refused("25, missing again", WORLD + "sheet(0,0,0);", "whose(0,0,0)=NONE");
        ON.refused("25, BEYOND ahead of NONE", WORLD, "whose(3,7,0)=BEYOND", "whose(3,-1,0)=BEYOND", "whose(3,0,2)=BEYOND",
            "whose(3,0,-1)=BEYOND", "whose(4,0,0)=BEYOND");
        ON.refused("25, BEYOND", WORLD, "whose(-1,0,0)=BEYOND", "whose(4,0,0)=BEYOND", "whose(0,-1,0)=BEYOND", "whose(0,7,0)=BEYOND",
            "whose(0,0,-1)=BEYOND", "whose(0,0,2)=BEYOND", "whose(MIN,0,0)=BEYOND", "whose(MAX,0,0)=BEYOND", "whose(0,MIN,0)=BEYOND",
            "whose(0,0,MAX)=BEYOND");
        ON.refused("25, without BITS", "sheet(0,8,0);", "whose(0,0,0)=BEYOND");
        ON.same("25: all stays as it is", WORLD, WORLD + "whose(0,0,0); whose(1,6,1); whose(2,3,0)");
    }

    /** From number 2 on: one FAR less behind each DAY of which d is 0, of which the first is DAY 7. */
    private static String twentyFour() {
        StringBuilder s = new StringBuilder();
        for (int i = 2; i < 24; i++) s.append("put(0," + i + "," + (5 + (i + 5) / 7) + ");");
        return s.toString();
    }

    public static void main(String[] args) {
        then();
        soonest();
        gets();
        carry();
        way();
        odds();
        whose();
        ON.end();
    }
}
