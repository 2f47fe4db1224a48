/** The edges of promises 15 to 18, and of what the Terms tell of how a DAY goes by, and of DRAWS. */
public final class DayEdgeTest {
    private static final Edges ON = new Edges();
    private static final String WORLD = Edges.WORLD;
    private static final String ROW = Edges.ROW;
    private static final int[] SEEDS = {0, 1, -1, 2, 3, 5, 77, 12345, -12345, 8388608, 1 << 30, Integer.MIN_VALUE,
        Integer.MIN_VALUE + 1, Integer.MAX_VALUE - 1, Integer.MAX_VALUE, -1000000000, -1000000001};

    private static int z = 1;

    private static int draw() {
        z = z * 1103515245 + 12345;
        return z >>> 8;
    }

    private static void days() {
        ON.edge("15: the fewest DAYS", "days(1)=0; count(1)=1");
        ON.edge("15: the most DAYS", "days(60)=0; count(1)=60");
        ON.edge("15: the most DAYS to the highest DAY", "day(9939); days(60)=0; count(1)=9999");
        ON.edge("15: one DAY to the highest DAY", "day(9998); days(1)=0; count(1)=9999");
        ON.edge("15: without BITS", "days(3)=0; count(2)=0; count(6)=1");
        ON.edge("15: a set of all 8", ROW + "8*bit(0,0,1); days(1)=255; count(2)=255");
        ON.edge("15: a set of the first, of the last", ROW + "bit(0,0,1); 6*bit(0,0,9); days(1)=1; bit(0,0,1); lay(0,9); days(1)=128");
        ON.same("15: 60 DAYS are 60 times one", WORLD + "60*days(1)", WORLD + "days(60)");
        ON.same("15: DAYS one by one where none goes any more", "bit(0,0,5); bit(40,1,1); 60*days(1)", "bit(0,0,5); bit(40,1,1); days(60)");
        ON.refused("15, BEYOND", WORLD, "days(0)=BEYOND", "days(61)=BEYOND", "days(-1)=BEYOND", "days(MIN)=BEYOND", "days(MAX)=BEYOND");
        ON.refused("15, DAY would be above 9999", WORLD + "day(9999);", "days(1)=STATE", "days(60)=STATE");
        ON.refused("15, DAY would be 10000", WORLD + "day(9940);", "days(60)=STATE");
        ON.refused("15, DAY would be 10000, by two", WORLD + "day(9998);", "days(2)=STATE");
        ON.refused("15, BEYOND ahead of STATE", WORLD + "day(9999);", "days(0)=BEYOND", "days(61)=BEYOND", "days(-1)=BEYOND",
            "days(MAX)=BEYOND");
    }

    private static void going() {
        ON.edge("15: one that is HOME stays", ROW + "field(0,4); bit(0,0,4); days(60)=1; bitIs(0,3)=4");
        ON.edge("15: one from which there is no WAY stays", ROW + "opens(4,5,0); bit(0,0,5); days(60)=0; bitIs(0,3)=5");
        ON.edge("15: a WAY later on", "bit(0,0,9); days(2)=0; opens(0,9,1); days(1)=1; bitIs(0,3)=0");
        ON.edge("15: no STEPS", ROW + "bit(60,0,5); days(60)=0; bitIs(0,3)=5");
        ON.edge("15: fewer STEPS than FAR", ROW + "bit(0,0,5); 0'3'; days(1)=0; bitIs(0,3)=2");
        ON.edge("15: as many STEPS as FAR", ROW + "bit(0,0,3); 0'3'; days(1)=1; bitIs(0,3)=0");
        ON.edge("15: more STEPS than FAR, till it is HOME", ROW + "field(0,4); bit(0,0,6); bit(0,0,3); 0'3'; days(1)=3; bitIs(0,3)=4;"
            + "bitIs(1,3)=4");
        ON.edge("15: the most WAYS", ROW + "bit(0,0,9); bit(0,3,9); days(8)=2; days(1)=3");
        ON.edge("15: from the lowest PLACE up", ROW + "field(0,9); bit(0,0,0); days(1)=0; bitIs(0,3)=1; days(8)=1; bitIs(0,3)=9");
        ON.edge("15: of several the least", "opens(9,8,1); opens(9,2,1); opens(9,5,1); opens(8,0,1); opens(2,0,1); opens(5,0,1);"
            + "bit(0,0,9); days(1)=0; bitIs(0,3)=2");
        ON.edge("15: a lesser one that is no nearer", "opens(9,1,1); opens(9,8,1); opens(8,0,1); bit(0,0,9); days(1)=0; bitIs(0,3)=8");
        ON.edge("15: a lesser one that is as FAR", "field(0,9); opens(5,1,1); opens(5,6,1); opens(6,9,1); opens(1,6,1); bit(0,0,5);"
            + "days(1)=0; bitIs(0,3)=6");
        ON.edge("15: of several at each STEP", "field(0,9); opens(0,2,1); opens(0,3,1); opens(2,7,1); opens(2,8,1); opens(3,1,1);"
            + "opens(7,9,1); opens(8,9,1); opens(1,9,1); bit(0,0,0); 0'2'; days(1)=0; bitIs(0,3)=7");
        ON.edge("15: STEPS as the DAY begins: a POCKET left by one of a lower number", ROW + "bit(0,0,5); bit(30,0,5); days(1)=0;"
            + "bitIs(0,3)=4; bitIs(1,3)=4");
        ON.edge("15: STEPS as the DAY begins: a POCKET left by one of a higher number", ROW + "bit(30,0,5); bit(0,0,5); days(1)=0;"
            + "bitIs(0,3)=4; bitIs(1,3)=4");
        ON.edge("15: STEPS as the DAY begins: one that comes is none TOGETHER", ROW + "bit(0,0,6); bit(30,0,5); days(1)=0; bitIs(0,3)=5;"
            + "bitIs(1,3)=5; days(1)=0; bitIs(1,3)=4");
        ON.edge("15: STEPS as the DAY begins: DAY is that ahead", ROW + "bit(10,0,5); day(1); days(1)=0; bitIs(0,3)=5; days(1)=0;"
            + "bitIs(0,3)=4");
        ON.edge("15: d wraps around behind 6", ROW + "bit(0,0,5); 0'd=0'; day(6); days(1)=0; bitIs(0,3)=5; days(1)=0; bitIs(0,3)=4");
        ON.edge("15: f is FAR as the DAY begins", ROW + "bit(0,0,5); 0'(f=5)*2'; days(1)=0; bitIs(0,3)=3; days(1)=0; bitIs(0,3)=3");
        ON.edge("15: HEARD and the rest stay", ROW + "bit(37,0,5); hears(0,7); days(60)=1; bitIs(0,4)=7; bitIs(0,0)=3; bitIs(0,1)=7;"
            + "bitIs(0,2)=0; count(6)=1");
    }

    private static void loose() {
        ON.edge("16: the fewest DAYS", "loose(1)=0; count(1)=1");
        ON.edge("16: the most DAYS", "loose(30)=0; count(1)=30");
        ON.edge("16: the most DAYS to the highest DAY", "day(9969); loose(30)=0; count(1)=9999");
        ON.edge("16: one DAY to the highest DAY", "day(9998); loose(1)=0; count(1)=9999");
        ON.edge("16: without BITS there are no draws", "seed(77); loose(30)=0; count(6)=77");
        ON.same("16: 30 DAYS are 30 times one", WORLD + "30*loose(1)", WORLD + "loose(30)");
        ON.same("16: without BITS as days", "opens(0,1,1); days(30)", "opens(0,1,1); loose(30)");
        ON.refused("16, BEYOND", WORLD, "loose(0)=BEYOND", "loose(31)=BEYOND", "loose(-1)=BEYOND", "loose(MIN)=BEYOND",
            "loose(MAX)=BEYOND");
        ON.refused("16, DAY would be above 9999", WORLD + "day(9999);", "loose(1)=STATE", "loose(30)=STATE");
        ON.refused("16, DAY would be 10000", WORLD + "day(9970);", "loose(30)=STATE");
        ON.refused("16, DAY would be 10000, by two", WORLD + "day(9998);", "loose(2)=STATE");
        ON.refused("16, BEYOND ahead of STATE", WORLD + "day(9999);", "loose(0)=BEYOND", "loose(31)=BEYOND", "loose(-1)=BEYOND",
            "loose(MAX)=BEYOND");
        ON.refused("16, without BITS", "seed(5); day(9970);", "loose(30)=STATE", "loose(31)=BEYOND");
    }

    /** A DAY BY DRAWS of so many BITS of which none goes by itself; whether a fourth draw is made. */
    private static String drawn(int bits, int seed) {
        z = seed;
        int one = draw() % bits;
        int heard = draw() % 10;
        int at = draw() % 8 == 0 ? draw() % 10 : -1;
        StringBuilder s = new StringBuilder("opens(0,1,1); seed(" + seed + ");");
        for (int b = 0; b < bits; b++) s.append("bit(60,0,1); hears(" + b + ",5);");
        s.append("loose(1); count(1)=1; count(6)=" + z + ";");
        for (int b = 0; b < bits; b++) {
            s.append("bitIs(" + b + ",4)=" + (b == one ? heard : 5) + "; bitIs(" + b + ",3)=" + (b == one && at >= 0 ? at : 1) + ";");
        }
        return s.toString();
    }

    private static void draws() {
        for (int seed : SEEDS) {
            for (int bits : new int[] {1, 3, 7, 8}) ON.edge("16: draws from z " + seed + ", of BITS " + bits, drawn(bits, seed));
        }
        for (int rest = 0; rest < 8; rest++) {
            int seed = seedOf(3, 8, rest);
            ON.edge("16: the third draw leaves " + rest + " by 8", drawn(2, seed));
        }
        for (int rest = 0; rest < 10; rest++) {
            ON.edge("16: the second draw leaves " + rest + " by 10", drawn(2, seedOf(2, 10, rest)));
            ON.edge("16: the fourth draw leaves " + rest + " by 10", drawn(2, seedOf(4, 10, rest)));
        }
        for (int rest = 0; rest < 8; rest++) ON.edge("16: the first draw leaves " + rest + " by 8", drawn(8, seedOf(1, 8, rest)));
    }

    /** The least seed whose draw of a number leaves a rest; that fourth draws are made, where they are asked. */
    private static int seedOf(int number, int by, int rest) {
        for (int seed = 1; ; seed++) {
            z = seed;
            int[] d = {draw(), draw(), draw(), draw()};
            if (d[number - 1] % by == rest && (number < 4 || d[2] % 8 == 0)) return seed;
        }
    }

    private static void drawsAheadOfTheDay() {
        int seed = seedOf(4, 10, 7);
        ON.edge("16: from where it is drawn to it goes a DAY", ROW + "bit(0,0,3); seed(" + seed + "); loose(1)=0; bitIs(0,3)=6");
        ON.edge("16: drawn HOME it stays", ROW + "field(0,7); bit(0,0,3); seed(" + seed + "); loose(1)=1; bitIs(0,3)=7");
        ON.edge("16: drawn away from HOME, to where no WAY leads", "bit(0,3,3); seed(" + seed + "); loose(1)=0; bitIs(0,3)=7");
        ON.edge("16: drawn to another, that is TOGETHER with it", ROW + "field(0,9); bit(60,0,7); bit(30,0,3); seed("
            + bothSeed() + "); loose(1)=0; bitIs(1,3)=8");
        ON.edge("16: behind the last DAY of 30 z has gone on", "bit(0,0,0); seed(1); 30*loose(1); count(1)=30; seed(1)=" + zBehind(30));
        ON.edge("16: a set of all 8", "field(0,9); field(1,9); field(2,9); field(3,9);" + "8*bit(0,0,9); seed(" + seedOf(3, 8, 1) + ");"
            + "loose(1)=255");
    }

    /** A seed by which the second one of two is AT the PLACE 7. */
    private static int bothSeed() {
        for (int seed = 1; ; seed++) {
            z = seed;
            int[] d = {draw(), draw(), draw(), draw()};
            if (d[0] % 2 == 1 && d[2] % 8 == 0 && d[3] % 10 == 7) return seed;
        }
    }

    private static int zBehind(int days) {
        z = 1;
        for (int i = 0; i < days; i++) {
            draw();
            draw();
            if (draw() % 8 == 0) draw();
        }
        return z;
    }

    private static void day() {
        ON.edge("17: the lowest and the highest DAY", "day(9999)=0; count(1)=9999; day(0)=9999; count(1)=0; day(1)=0; day(9998)=1;"
            + "day(0)=9998");
        ON.edge("17: BITS stay", ROW + "bit(0,0,5); day(9999); bitIs(0,3)=5; day(0); bitIs(0,3)=5");
        ON.refused("17", WORLD, "day(-1)=BEYOND", "day(10000)=BEYOND", "day(MIN)=BEYOND", "day(MAX)=BEYOND");
    }

    private static void seed() {
        ON.edge("18: the lowest and the highest number", "seed(MIN)=1; count(6)=MIN; seed(MAX)=MIN; count(6)=MAX; seed(0)=MAX; seed(-1)=0;"
            + "count(6)=-1");
        ON.edge("18: any number is no ERROR", "seed(BEYOND); seed(NONE)=BEYOND; seed(STATE)=NONE; seed(FULL)=STATE; seed(KIND)=FULL;"
            + "seed(PARTED)=KIND;"
            + "count(6)=PARTED; told(1)=0; told(2)=0; told(3)=0; told(4)=0; told(5)=0; told(6)=0");
    }

    public static void main(String[] args) {
        days();
        going();
        loose();
        draws();
        drawsAheadOfTheDay();
        day();
        seed();
        ON.end();
    }
}
