/** The edges of promises 1 to 10, and of what the Terms tell of PLACES and BITS. */
public final class PlaceEdgeTest {
    private static final Edges ON = new Edges();
    private static final String WORLD = Edges.WORLD;
    private static final String ROW = Edges.ROW;
    private static final String EIGHT = WORLD + "bit(0,0,0)=7;";

    private static void newObject() {
        ON.edge("1: no BITS", "count(0)=0; bitIs(0,0)=BEYOND; count(2)=0");
        StringBuilder none = new StringBuilder();
        for (int p = 0; p < 10; p++) {
            for (int q = 0; q < 10; q++) none.append("far(" + p + "," + q + ")=" + (p == q ? "0;" : "NONE;"));
        }
        ON.edge("1: no WAYS at first", none.toString());
        ON.edge("1: no TEXTS", "untell(0)=0; untell(1)=0; law(0,2,1,1)=2; law(1,50,1,1)=50");
        ON.edge("1: each FIELD at the PLACE of its own number at first", "field(0,9)=0; field(1,9)=1; field(2,9)=2; field(3,9)=3");
        ON.edge("1: DAY is 0 at first", "count(1)=0; day(5)=0");
        ON.edge("1: z is 1 at first", "count(6)=1; seed(5)=1");
        ON.edge("1: THE TAPE is empty at first", "count(3)=0; feed(0,1)=1");
        ON.edge("1: no number waits at first", "count(4)=0; check()=0; tell(0)=1");
        ON.edge("1: no BODIES in THE TRACE at first", "count(5)=0; body(0)=NONE");
        ON.edge("1: SHEETS are missing at first", "lays(0)=NONE; lays(1)=NONE; lays(2)=NONE; lays(3)=NONE");
        ON.edge("1: no IMAGE at first", "restore()=NONE; image()=1");
        ON.edge("1: no ERRORS at first", "told(1)=0; told(2)=0; told(3)=0; told(4)=0; told(5)=0; told(6)=0");
        ON.edge("1: HEARD is 0 at first", "bit(69,3,9); bitIs(0,4)=0; hears(0,9)=0");
        ON.same("1: what one object is told is nothing to another one", WORLD, WORLD);
        ON.edge("1: the 512th call still answers", "511*image(); image()=512");
        ON.edge("1: ERRORS up to the 512th call", "511*far(0,10)=BEYOND; told(1)=511");
    }

    private static void opens() {
        ON.edge("2: the lowest, the highest PLACE", "opens(0,9,1)=0; far(0,9)=1; opens(0,9,0)=1; far(0,9)=NONE");
        ON.edge("2: the highest one first", "opens(9,0,1)=0; far(0,9)=1; far(9,0)=1");
        ON.edge("2: both ways", "opens(3,4,1)=0; opens(4,3,1)=1; far(3,4)=1; far(4,3)=1; opens(4,3,0)=1; opens(3,4,0)=0; far(4,3)=NONE");
        ON.edge("2: again as it is", "opens(1,2,0)=0; far(1,2)=NONE; opens(1,2,1)=0; opens(1,2,1)=1; far(1,2)=1");
        ON.edge("2: one shut, another one stays", "opens(0,1,1); opens(0,2,1); opens(1,2,1); opens(0,1,0)=1; far(0,1)=2; far(0,2)=1");
        ON.refused("2", WORLD, "opens(-1,0,0)=BEYOND", "opens(10,0,0)=BEYOND", "opens(0,-1,0)=BEYOND", "opens(0,10,0)=BEYOND",
            "opens(1,0,-1)=BEYOND", "opens(1,0,2)=BEYOND", "opens(0,9,2)=BEYOND", "opens(0,0,1)=BEYOND", "opens(9,9,1)=BEYOND",
            "opens(4,4,0)=BEYOND", "opens(MIN,1,1)=BEYOND", "opens(1,MAX,1)=BEYOND", "opens(0,1,MIN)=BEYOND", "opens(10,10,1)=BEYOND");
        ON.edge("2: a WAY between any two", Edges.allWays() + "far(0,9)=1; opens(0,9,0)=1; far(0,9)=2; far(9,8)=1; opens(8,9,1)=1");
    }

    private static void field() {
        ON.edge("3: the lowest FIELD, the lowest and the highest PLACE", "field(0,9)=0; field(0,0)=9; field(0,0)=0");
        ON.edge("3: the highest FIELD, the lowest and the highest PLACE", "field(3,0)=3; field(3,9)=0; field(3,9)=9");
        ON.edge("3: FIELDS may be at one PLACE", "field(0,5)=0; field(1,5)=1; field(2,5)=2; field(3,5)=3; field(0,0)=5");
        ON.edge("3: BITS stay as it goes", "bit(0,1,1); count(2)=1; field(1,2); count(2)=0; bitIs(0,3)=1; field(1,1); count(2)=1");
        ON.refused("3", WORLD, "field(-1,0)=BEYOND", "field(4,0)=BEYOND", "field(0,-1)=BEYOND", "field(0,10)=BEYOND",
            "field(MIN,0)=BEYOND", "field(MAX,0)=BEYOND", "field(3,MIN)=BEYOND", "field(3,MAX)=BEYOND");
    }

    private static void far() {
        ON.edge("4: 0 to itself, without WAYS", "far(0,0)=0; far(9,9)=0");
        ON.edge("4: 0 to itself, with WAYS", ROW + "far(0,0)=0; far(5,5)=0; far(9,9)=0");
        ON.edge("4: the most WAYS", ROW + "far(0,9)=9; far(9,0)=9; far(0,8)=8; far(1,9)=8");
        ON.edge("4: the fewest of several", ROW + "opens(0,9,1); far(0,9)=1; far(0,5)=5; far(0,6)=4; far(4,9)=5");
        ON.edge("4: the fewest again, one being shut", ROW + "opens(0,9,1); opens(0,9,0); far(0,9)=9; far(0,6)=6");
        ON.edge("4: two parts without a WAY between", ROW + "opens(4,5,0); far(0,4)=4; far(5,9)=4; far(4,5)=NONE; far(9,0)=NONE");
        ON.refused("4", WORLD, "far(-1,0)=BEYOND", "far(10,0)=BEYOND", "far(0,-1)=BEYOND", "far(0,10)=BEYOND", "far(10,10)=BEYOND",
            "far(MIN,MIN)=BEYOND", "far(MAX,0)=BEYOND", "far(0,4)=NONE", "far(9,0)=NONE", "far(5,0)=NONE");
    }

    private static void bit() {
        ON.edge("5: the lowest km, FIELD, PLACE", "bit(0,0,0)=0; bitIs(0,0)=0; bitIs(0,1)=0; bitIs(0,2)=0; bitIs(0,3)=0");
        ON.edge("5: the highest km, FIELD, PLACE", "bit(69,3,9)=0; bitIs(0,0)=6; bitIs(0,1)=9; bitIs(0,2)=3; bitIs(0,3)=9");
        ON.edge("5: m 9 and the next KIND", "bit(9,0,0)=0; bit(10,0,0)=1; bitIs(0,0)=0; bitIs(0,1)=9; bitIs(1,0)=1; bitIs(1,1)=0");
        ON.edge("5: the 8th of BITS", "7*bit(0,0,0); bit(69,3,9)=7; count(0)=8; bitIs(7,1)=9");
        ON.refused("5, BEYOND", WORLD, "bit(-1,0,0)=BEYOND", "bit(70,0,0)=BEYOND", "bit(0,-1,0)=BEYOND", "bit(0,4,0)=BEYOND",
            "bit(0,0,-1)=BEYOND", "bit(0,0,10)=BEYOND", "bit(MIN,0,0)=BEYOND", "bit(MAX,0,0)=BEYOND");
        ON.refused("5, a 9th of BITS", EIGHT, "bit(0,0,0)=FULL", "bit(69,3,9)=FULL");
        ON.refused("5, BEYOND ahead of FULL", EIGHT, "bit(-1,0,0)=BEYOND", "bit(70,0,0)=BEYOND", "bit(0,-1,0)=BEYOND",
            "bit(0,4,0)=BEYOND", "bit(0,0,-1)=BEYOND", "bit(0,0,10)=BEYOND");
        ON.refused("5, BEYOND without BITS", "", "bit(70,0,0)=BEYOND", "bit(0,4,0)=BEYOND", "bit(0,0,10)=BEYOND");
    }

    private static void bitIs() {
        ON.edge("6: the lowest and the highest what", ROW + "bit(69,3,2); bitIs(0,0)=6; bitIs(0,7)=8");
        ON.refused("6", WORLD, "bitIs(-1,0)=BEYOND", "bitIs(7,0)=BEYOND", "bitIs(0,-1)=BEYOND", "bitIs(0,8)=BEYOND",
            "bitIs(MIN,0)=BEYOND", "bitIs(MAX,7)=BEYOND", "bitIs(6,MIN)=BEYOND", "bitIs(6,MAX)=BEYOND");
        ON.refused("6, without BITS", "", "bitIs(0,0)=BEYOND", "bitIs(0,7)=BEYOND");
        ON.refused("6, with 8 of BITS", EIGHT, "bitIs(8,0)=BEYOND", "bitIs(-1,7)=BEYOND");
        StringBuilder looks = new StringBuilder(WORLD);
        for (int what = 0; what < 8; what++) looks.append("bitIs(5," + what + ");");
        ON.same("6: all stays as it is", WORLD, looks.toString());
    }

    private static void walks() {
        ON.edge("6: a CRUMB WALKS 1", "bit(0,0,0); bit(9,0,5); bitIs(0,5)=1; bitIs(1,5)=1; day(9999); bitIs(0,5)=1");
        ON.edge("6: a CRUST WALKS if 2 divides DAY", "bit(10,0,0); bitIs(0,5)=1; day(1); bitIs(0,5)=0; day(2); bitIs(0,5)=1;"
            + "day(9998); bitIs(0,5)=1; day(9999); bitIs(0,5)=0");
        ON.edge("6: an OFFICE WALKS if DAY and m leave the same by 7, m 0", "bit(20,0,0); bitIs(0,5)=2; day(1); bitIs(0,5)=0;"
            + "day(6); bitIs(0,5)=0; day(7); bitIs(0,5)=2; day(8); bitIs(0,5)=0");
        ON.edge("6: an OFFICE, m 6 and 7", "bit(26,0,0); bit(27,0,0); bitIs(0,5)=0; bitIs(1,5)=2; day(6); bitIs(0,5)=2;"
            + "bitIs(1,5)=0; day(7); bitIs(0,5)=0; bitIs(1,5)=2");
        ON.edge("6: an OFFICE, m 9", "bit(29,0,0); day(2); bitIs(0,5)=2; day(9); bitIs(0,5)=2; day(1); bitIs(0,5)=0; day(3); bitIs(0,5)=0");
        ON.edge("6: a POCKET WALKS if m is above 6", "bit(36,0,0); bit(37,1,0); bit(39,2,0); bitIs(0,5)=0; bitIs(1,5)=1; bitIs(2,5)=1");
        ON.edge("6: TOGETHER are others, not itself", "bit(30,0,4); bitIs(0,5)=0; bit(0,0,4); bitIs(0,5)=1");
        ON.edge("6: TOGETHER are those of lower numbers, too", "bit(0,0,4); bit(30,0,4); bitIs(1,5)=1; lay(0,5); bitIs(1,5)=0");
        ON.edge("6: TOGETHER are those AT its PLACE", "bit(30,0,4); bit(0,0,5); bitIs(0,5)=0; lay(1,4); bitIs(0,5)=1");
        ON.edge("6: TOGETHER are those OF its FIELD", "bit(30,0,4); bit(0,1,4); bitIs(0,5)=0");
        ON.edge("6: FIELDS at one PLACE are two FIELDS", "field(1,0); bit(30,0,4); bit(0,1,4); bitIs(0,5)=0");
        ON.edge("6: TOGETHER with the last of 8", "bit(30,0,4); 6*bit(0,1,4); bitIs(0,5)=0; bit(60,0,4)=7; bitIs(0,5)=1");
        ON.edge("6: a HEEL WALKS as CRUST, and 1, if 3 divides DAY", "bit(40,0,0); bitIs(0,5)=2; day(1); bitIs(0,5)=0; day(2);"
            + "bitIs(0,5)=1; day(3); bitIs(0,5)=1; day(4); bitIs(0,5)=1; day(5); bitIs(0,5)=0; day(6); bitIs(0,5)=2; day(9999);"
            + "bitIs(0,5)=1");
        ON.edge("6: an ENVELOPE WALKS as OFFICE, and 1", "bit(50,0,0); bitIs(0,5)=3; day(1); bitIs(0,5)=1; day(6); bitIs(0,5)=1; day(7);"
            + "bitIs(0,5)=3");
        ON.edge("6: a KEPT WALKS if m is 9", "bit(60,0,0); bit(68,0,0); bit(69,0,0); bitIs(0,5)=0; bitIs(1,5)=0; bitIs(2,5)=1");
    }

    private static void weighs() {
        ON.edge("6: a CRUMB WEIGHS 10 and m", "bit(0,0,0); bit(9,0,0); hears(1,9); bitIs(0,6)=10; bitIs(1,6)=19");
        ON.edge("6: a CRUST WEIGHS as CRUMB, and HEARD", "bit(10,0,0); bit(19,0,0); bitIs(0,6)=10; hears(0,9); hears(1,9); bitIs(0,6)=19;"
            + "bitIs(1,6)=28");
        ON.edge("6: an OFFICE WEIGHS if HEARD is above 4", "bit(29,0,0); bitIs(0,6)=0; hears(0,4); bitIs(0,6)=0; hears(0,5);"
            + "bitIs(0,6)=19; hears(0,9); bitIs(0,6)=19");
        ON.edge("6: a POCKET WEIGHS half, cut", "bit(30,0,0); bit(31,0,0); bit(38,0,0); bit(39,0,0); bitIs(0,6)=5; bitIs(1,6)=5;"
            + "bitIs(2,6)=9; bitIs(3,6)=9");
        ON.edge("6: a HEEL WEIGHS as CRUST, and 5", "bit(40,0,0); bit(49,0,0); bitIs(0,6)=15; hears(1,9); bitIs(1,6)=33");
        ON.edge("6: an ENVELOPE WEIGHS twice OFFICE's, and m", "bit(50,0,0); bit(59,0,0); bitIs(0,6)=0; bitIs(1,6)=9; hears(0,4);"
            + "hears(1,4); bitIs(0,6)=0; bitIs(1,6)=9; hears(0,5); hears(1,5); bitIs(0,6)=20; bitIs(1,6)=47");
        ON.edge("6: a KEPT WEIGHS 3 times CRUMB's", "bit(60,0,0); bit(69,0,0); hears(1,9); bitIs(0,6)=30; bitIs(1,6)=57");
        ON.edge("6: it WARMS by 9 AT the PLACE of its FIELD", "bit(0,3,3); bitIs(0,7)=9");
        ON.edge("6: it WARMS by 9 less FAR", ROW + "bit(0,0,1); bitIs(0,7)=8; lay(0,8); bitIs(0,7)=1; lay(0,9); bitIs(0,7)=0");
        ON.edge("6: it WARMS by 0: there is no WAY", "bit(0,0,1); bitIs(0,7)=0; opens(0,1,1); bitIs(0,7)=8");
        ON.edge("6: HOME is one AT the PLACE of its FIELD", "bit(0,0,3); bit(0,3,3); count(2)=2; lay(0,0); count(2)=3; lay(1,0);"
            + "count(2)=1");
    }

    private static void become() {
        ON.edge("7: the lowest and the highest km", "bit(42,1,2); become(0,69)=4; bitIs(0,0)=6; bitIs(0,1)=9; become(0,0)=6; bitIs(0,0)=0;"
            + "bitIs(0,1)=0");
        ON.edge("7: its FIELD, AT, and HEARD stay", "bit(42,1,2); hears(0,9); become(0,17)=4; bitIs(0,2)=1; bitIs(0,3)=2; bitIs(0,4)=9");
        ON.edge("7: the last of 8, none of the others", "8*bit(42,1,2); become(7,5)=4; bitIs(7,0)=0; bitIs(6,0)=4; bitIs(6,1)=2");
        ON.refused("7", WORLD, "become(-1,0)=BEYOND", "become(7,0)=BEYOND", "become(0,-1)=BEYOND", "become(0,70)=BEYOND",
            "become(6,MIN)=BEYOND", "become(6,MAX)=BEYOND", "become(MIN,0)=BEYOND", "become(MAX,69)=BEYOND");
        ON.refused("7, without BITS", "", "become(0,0)=BEYOND");
    }

    private static void as() {
        ON.edge("8: the lowest KIND is above all", "bit(0,0,0); bit(11,0,0); bit(22,0,0); bit(33,0,0); bit(44,0,0); bit(55,0,0);"
            + "bit(66,0,0);"
            + "as(0,0)=0; as(1,0)=1; as(2,0)=2; as(3,0)=3; as(4,0)=4; as(5,0)=5; as(6,0)=6");
        ON.edge("8: the highest KIND", "bit(69,0,0); as(0,6)=9; as(0,0)=9");
        ON.edge("8: two KINDS below CRUMB", "bit(47,0,0); bit(58,0,0); as(0,4)=7; as(0,1)=7; as(1,5)=8; as(1,2)=8");
        ON.refused("8, BEYOND", WORLD, "as(-1,0)=BEYOND", "as(7,0)=BEYOND", "as(0,-1)=BEYOND", "as(0,7)=BEYOND",
            "as(MIN,0)=BEYOND", "as(MAX,6)=BEYOND", "as(6,MIN)=BEYOND", "as(6,MAX)=BEYOND");
        ON.refused("8, not one of that KIND", WORLD, "as(1,2)=KIND", "as(1,6)=KIND", "as(2,1)=KIND", "as(3,6)=KIND", "as(6,3)=KIND");
        ON.refused("8, not one under it", WORLD, "as(4,2)=KIND", "as(4,3)=KIND", "as(4,5)=KIND", "as(5,1)=KIND", "as(5,4)=KIND",
            "as(5,6)=KIND");
        ON.refused("8, the KIND above is none of the one below", WORLD, "as(1,4)=KIND", "as(2,5)=KIND", "as(0,4)=KIND");
        ON.refused("8, a CRUMB is of no other KIND", "bit(9,0,0);", "as(0,1)=KIND", "as(0,2)=KIND", "as(0,3)=KIND", "as(0,4)=KIND",
            "as(0,5)=KIND", "as(0,6)=KIND", "as(0,7)=BEYOND", "as(1,6)=BEYOND");
        ON.same("8: all stays as it is", WORLD, WORLD + "as(6,6)=9; as(4,1)=4");
    }

    private static void hears() {
        ON.edge("9: the lowest and the highest HEARD", "bit(0,0,0); hears(0,9)=0; bitIs(0,4)=9; hears(0,0)=9; bitIs(0,4)=0; hears(0,1)=0");
        ON.edge("9: the last of 8, none of the others", "8*bit(0,0,0); hears(7,5)=0; bitIs(7,4)=5; bitIs(6,4)=0");
        ON.refused("9", WORLD, "hears(-1,0)=BEYOND", "hears(7,0)=BEYOND", "hears(0,-1)=BEYOND", "hears(0,10)=BEYOND",
            "hears(6,MIN)=BEYOND", "hears(6,MAX)=BEYOND", "hears(MIN,0)=BEYOND", "hears(MAX,9)=BEYOND");
        ON.refused("9, without BITS", "", "hears(0,0)=BEYOND");
    }

    private static void lay() {
        ON.edge("10: the lowest and the highest PLACE", "bit(0,2,5); lay(0,9)=5; bitIs(0,3)=9; lay(0,0)=9; bitIs(0,3)=0; lay(0,2)=0;"
            + "count(2)=1");
        ON.edge("10: the last of 8, none of the others", "8*bit(0,0,0); lay(7,5)=0; bitIs(7,3)=5; bitIs(6,3)=0");
        ON.edge("10: without a WAY", "bit(0,0,5); lay(0,0)=5; count(2)=1; lay(0,9)=0; count(2)=0");
        ON.refused("10", WORLD, "lay(-1,0)=BEYOND", "lay(7,0)=BEYOND", "lay(0,-1)=BEYOND", "lay(0,10)=BEYOND",
            "lay(6,MIN)=BEYOND", "lay(6,MAX)=BEYOND", "lay(MIN,0)=BEYOND", "lay(MAX,9)=BEYOND");
        ON.refused("10, without BITS", "", "lay(0,0)=BEYOND");
    }

    public static void main(String[] args) {
        newObject();
        opens();
        field();
        far();
        bit();
        bitIs();
        walks();
        weighs();
        become();
        as();
        hears();
        lay();
        ON.end();
    }
}
