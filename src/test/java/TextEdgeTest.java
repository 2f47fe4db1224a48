/** The edges of promises 11 to 14, and of what the Terms tell of THE TAPE, TEXTS, and USES. */
public final class TextEdgeTest {
    private static final Edges ON = new Edges();
    private static final String WORLD = Edges.WORLD;
    private static final String ROW = Edges.ROW;
    /** 29 times "1+", and 11: as many bytes as THE TAPE holds. */
    private static final String SIXTY = "1+".repeat(29) + "11";

    private static void feed() {
        ON.edge("11: the fewest and the most bytes", "feed(0,1)=1; feed(0,8)=9; count(3)=9");
        ON.edge("11: the lowest byte first", "feed(0x2d77,2)=2; feed(0x31,1)=3; text(1)=1; law(1,9,0,0)=8");
        ON.edge("11: higher bytes of the word stay away", "feed(0x7777777777777777,1)=1; text(1)=1; law(1,9,0,0)=9");
        ON.edge("11: all bytes of a word, the highest last", "feed(0x30312d312d312d77,8)=8; text(1)=1; law(1,20,0,0)=8");
        ON.edge("11: bytes of a word below 0", "feed(-1,8)=8; text(0)=-10; 's'; feed(-0x8000000000000000,8)=9; text(0)=-11");
        ON.edge("11: a byte above 127 is no byte below", "feed(0xf3,1); text(0)=-10; feed(0xb073,2); text(0)=-11; feed(0x173,1);"
            + "text(0)=1");
        ON.edge("11: THE TAPE is full with 60", "7*feed(0,8); feed(0,4)=60; count(3)=60");
        ON.edge("11: full by one byte more", "7*feed(0,8); feed(0,3)=59; feed(0,1)=60");
        ON.edge("11: empty again behind text, 60 more", "7*feed(0,8); feed(0,4)=60; text(0)=-10; 7*feed(0,8); feed(0,4)=60;"
            + "feed(0,1)=FULL");
        ON.refused("11, BEYOND", WORLD, "feed(0x31,0)=BEYOND", "feed(0x31,9)=BEYOND", "feed(0x31,-1)=BEYOND", "feed(0x31,MIN)=BEYOND",
            "feed(0x31,MAX)=BEYOND");
        String full = WORLD + "text(1); 1'w'; '" + SIXTY + "';";
        ON.refused("11, 60 bytes", full, "feed(0x31,1)=FULL", "feed(0x31,8)=FULL");
        ON.refused("11, more than 60 bytes, of which some would fit", WORLD + "text(1); 1'w'; '" + SIXTY.substring(0, 59) + "';",
            "feed(0x31,2)=FULL", "feed(0x31,8)=FULL");
        ON.refused("11, 53 and 8", WORLD + "text(1); 1'w'; '" + SIXTY.substring(0, 53) + "';", "feed(0x31,8)=FULL");
        ON.refused("11, BEYOND ahead of FULL", full, "feed(0x31,0)=BEYOND", "feed(0x31,9)=BEYOND", "feed(0x31,MAX)=BEYOND");
    }

    private static void text() {
        ON.edge("12: the lowest and the highest USE", "0's'=1; 1'w'=1; untell(0)=1; untell(1)=1");
        ON.edge("12: of one USE, not of the other one", "0'2'=1; law(0,0,0,0)=2; law(1,7,0,0)=7; untell(1)=0");
        ON.edge("12: THE TAPE is empty then", "0's'=1; count(3)=0; feed(0,1)=1");
        ON.edge("12: in place of one ahead, a longer one", "0'2'=1; 0's+1-1+1'=1; law(0,1,0,0)=2");
        ON.edge("12: in place of one ahead, a shorter one", "0's+1-1+1'=1; 0'3'=1; law(0,1,0,0)=3");
        ON.edge("12: an empty TAPE", "text(0)=-10; text(1)=-10; count(3)=0; told(1)=0; untell(0)=0");
        ON.edge("12: a TEXT of one byte", "1'7'=1; law(1,0,0,0)=7");
        ON.edge("12: a TEXT of 60 bytes", "1'" + SIXTY + "'=1; law(1,0,0,0)=40");
        ON.edge("12: a TEXT of 60 bytes, of which each counts", "1'2'; 1'!w+" + "1+".repeat(28) + "1'=1; law(1,7,0,0)=29; law(1,0,0,0)=30");
        ON.edge("12: 60 bytes, a FAULT of the first", "1'+" + SIXTY.substring(1) + "'=-10");
        ON.edge("12: 60 bytes, a FAULT of the last", "1'" + SIXTY.substring(0, 59) + ")'=-69");
        ON.edge("12: 60 bytes that end too early", "1'" + "1+".repeat(30) + "'=-70");
        ON.edge("12: 60 bytes, but the last is behind a TEXT", "1'" + "1+".repeat(29) + "w1'=-69");
        ON.edge("12: a FAULT: no ERROR", "0'3+'=-12; told(1)=0; told(2)=0; told(3)=0; told(4)=0; told(5)=0; told(6)=0");
        ON.same("12: a FAULT: the TEXTS ahead stay, THE TAPE is empty", WORLD + "text(1)=-10", WORLD + "'+'; text(0)=-16");
        ON.same("12: a FAULT of the longest TAPE", WORLD + "text(1)=-10", WORLD + "text(1); 1'" + "1+".repeat(30) + "'=-70");
        ON.edge("12: a FAULT where there was no TEXT", "0's+'=-12; untell(0)=0; law(0,2,0,0)=2");
        ON.refused("12, THE TAPE stays", WORLD, "text(-1)=BEYOND", "text(2)=BEYOND", "text(MIN)=BEYOND", "text(MAX)=BEYOND");
        ON.refused("12, an empty TAPE", "", "text(2)=BEYOND", "text(-1)=BEYOND");
    }

    private static void numbers() {
        ON.edge("12: a NUMBER of 1 digit", "1'0'=1; law(1,5,0,0)=0; 1'9'=1; law(1,5,0,0)=9");
        ON.edge("12: a NUMBER of 4 digits", "1'9999-9990'=1; law(1,0,0,0)=9; 1'0012'=1; law(1,0,0,0)=12; 1'0000'=1; law(1,5,0,0)=0");
        ON.edge("12: no NUMBER of 5 digits", "1'12345'=-14; 1'00000'=-14; 1'w+12345'=-16; 1'(12345)'=-15");
        ON.edge("12: beside the digits", "1'/'=-10; 1':'=-10; 1'1:'=-11; 1'1/'=-12");
        ON.edge("12: no NUMBER and NAME without a sign", "1'1w'=-11; 1'w1'=-11; 1'ww'=-11; 1'(1)2'=-13; 1'(1)(2)'=-13; 1'2(1)'=-11;"
            + "1'w!'=-11");
        ON.edge("12: no blanks", "0' s'=-10; 0's '=-11; 0's +d'=-11; 0's+ d'=-12; 0'( s)'=-11; 0'! s'=-11; 0'1 2'=-11");
        ON.edge("12: NAMES of USE 0", "0's'=1; 0'd'=1; 0'f'=1; 0'w'=-10; 0'h'=-10; 0'y'=-10; 0'S'=-10");
        ON.edge("12: NAMES of USE 1", "1'w'=1; 1'h'=1; 1'y'=1; 1's'=-10; 1'd'=-10; 1'f'=-10; 1'W'=-10");
        ON.edge("12: bytes that are none of a TEXT", "0'\0'=-10; 0's\0'=-11; 0's\u00ff'=-11; 0's\u0080'=-11; 0's^d'=-11; 0's,d'=-11;"
            + "0'x'=-10; 0'a'=-10");
    }

    private static void faults() {
        ON.edge("12: no sign ahead of the first", "0'+s'=-10; 0'-s'=-10; 0'*s'=-10; 0'<s'=-10; 0'|s'=-10; 0'&s'=-10; 0')'=-10");
        ON.edge("12: no sign behind a sign", "0's++'=-12; 0's+-d'=-12; 0's*/d'=-12; 0's&&d'=-12; 0's||d'=-12; 0's<=d'=-12; 0's>=d'=-12;"
            + "0's!=d'=-11");
        ON.edge("12: it ends behind a sign", "0's+'=-12; 0's-'=-12; 0's*'=-12; 0's/'=-12; 0's%'=-12; 0's<'=-12; 0's='=-12; 0's>'=-12;"
            + "0's&'=-12; 0's|'=-12; 0'!'=-11");
        ON.edge("12: it ends within brackets", "0'('=-11; 0'(s'=-12; 0'((s)'=-14; 0'(s+'=-13; 0'(1234'=-15");
        ON.edge("12: any T within brackets", "1'(w|h)*5'=1; law(1,0,3,0)=5; 1'(w&h)*5'=1; law(1,2,3,0)=5; 1'(w<h)*5'=1; law(1,2,3,0)=5;"
            + "1'(w-h)*5'=1; law(1,4,3,0)=5;"
            + "1'(w/h)*5'=1; law(1,3,3,0)=5; 1'!(w|h)+5'=1; law(1,0,0,0)=6; 1'((w)|(h))=1'=1; law(1,7,0,0)=1");
        ON.edge("12: brackets of nothing", "0'()'=-11; 0's+()'=-13; 0'!()'=-12");
        ON.edge("12: a bracket shut that isn't open", "0's)'=-11; 0'(s))'=-13; 0's+d)'=-13");
        ON.edge("12: one of < = > in a B", "0's<d'=1; 0's=d'=1; 0's>d'=1; 0's<d<f'=-13; 0's=d>f'=-13; 0's>d+1=f'=-15; 0'(s<d<f)'=-14");
        ON.edge("12: one of < = > in each B", "0's<d&d<f'=1; 0's<d|d<f&f=s'=1; 0's<d&d<f<s'=-17");
        ON.edge("12: one of < = > in brackets", "0'(s<d)<f'=1; 0's<(d<f)'=1; 0'((s<d)<f)=0'=1; 0'(s<d)<f<s'=-17");
        ON.edge("12: many of the other signs", "1'1|1|1|1|1|1&1&1&1&1&1'=1; 1'1+1-1+1-1+1*1/1%1*1/1%1'=1");
    }

    private static void open() {
        ON.edge("12: 5 of ! open at once", "0'!!!!!s'=1; 0'!!!!!(s'=-15; 0'!!!!!1234'=1");
        ON.edge("12: 6 of ! open at once", "0'!!!!!!s'=-15; 0'!!!!!!'=-15; 0'" + "!".repeat(60) + "'=-15");
        ON.edge("12: 5 of ( open at once", "0'(((((s)))))'=1; 0'(((((s+d)))))'=1; 0'(((((!s)))))'=-15");
        ON.edge("12: 6 of ( open at once", "0'((((((s))))))'=-15; 0'" + "(".repeat(60) + "'=-15");
        ON.edge("12: 5 of both open at once", "0'!(!(!s))'=1; 0'(!(!(s)))'=1; 0'!!!!(s)'=1; 0'((((!s))))'=1");
        ON.edge("12: 6 of both open at once", "0'!(!(!(s)))'=-15; 0'(!(!(!s)))'=-15; 0'!!!!!(s)'=-15; 0's+!!!!(!s)'=-17");
        ON.edge("12: what is shut is open no more", "0'(((((s)))))+(((((s)))))'=1; 0'!!!!!s+!!!!!d'=1; 0'!s+!s+!s+!s+!s+!s+!s'=1;"
            + "0'(s)+(s)+(s)+(s)+(s)+(s)'=1");
        ON.edge("12: a ! is shut behind its Q", "0'(!s+(!s+(!s)))'=1; 0'!(s)*!!!!!s'=1; 0'((((!s+(s)))))'=1; 0'((((!s+!!s))))'=-18");
        ON.edge("12: what a TEXT of 5 open gives", "1'!!!!!w'=1; law(1,0,0,0)=1; law(1,7,0,0)=0; 1'(((((w+1)))))*2'=1; law(1,3,0,0)=8");
    }

    private static void values() {
        ON.edge("14: + wraps around", "1'w+1=h'=1; law(1,MAX,MIN,0)=1; 1'w+h=y'=1; law(1,MIN,MIN,0)=1; law(1,MAX,MAX,-2)=1");
        ON.edge("14: - wraps around", "1'w-1=h'=1; law(1,MIN,MAX,0)=1; 1'0-w=w'=1; law(1,MIN,0,0)=1; law(1,0,0,0)=1; law(1,1,0,0)=0");
        ON.edge("14: * wraps around", "1'w*h=y'=1; law(1,65536,65536,0)=1; law(1,65536,32768,MIN)=1; law(1,MIN,-1,MIN)=1;"
            + "law(1,MAX,MAX,1)=1; law(1,MAX,2,-2)=1");
        ON.edge("14: NUMBERS wrap around", "1'9999*9999*9999=w'=1; law(1," + 9999 * 9999 * 9999 + ",0,0)=1; law(1,MAX,0,0)=0");
        ON.edge("14: / wraps around", "1'w/h=y'=1; law(1,MIN,-1,MIN)=1; law(1,MIN,1,MIN)=1; law(1,MAX,-1,-2147483647)=1");
        ON.edge("14: % of the lowest by -1", "1'w%h+7'=1; law(1,MIN,-1,0)=7; law(1,MIN,1,0)=7");
        ON.edge("14: / by 0 is 0", "1'w/h+7'=1; law(1,5,0,0)=7; law(1,-5,0,0)=7; law(1,0,0,0)=7; law(1,MIN,0,0)=7; 1'5/0+3'=1;"
            + "law(1,0,0,0)=3");
        ON.edge("14: % by 0 is 0", "1'w%h+7'=1; law(1,5,0,0)=7; law(1,-5,0,0)=7; law(1,0,0,0)=7; law(1,MIN,0,0)=7; 1'5%0+3'=1;"
            + "law(1,0,0,0)=3");
        ON.edge("14: / cuts toward 0", "1'w/h+50'=1; law(1,7,2,0)=53; law(1,-7,2,0)=47; law(1,7,-2,0)=47; law(1,-7,-2,0)=53;"
            + "law(1,1,2,0)=50; law(1,-1,2,0)=50");
        ON.edge("14: % is the rest that / leaves", "1'w%h+50'=1; law(1,7,4,0)=53; law(1,-7,4,0)=47; law(1,7,-4,0)=53; law(1,-7,-4,0)=47;"
            + "law(1,8,4,0)=50; law(1,3,4,0)=53");
        ON.edge("14: < by one", "1'w<h'=1; law(1,1,2,0)=1; law(1,2,2,0)=0; law(1,3,2,0)=0; law(1,MIN,MAX,0)=1; law(1,MAX,MIN,0)=0;"
            + "law(1,-1,0,0)=1");
        ON.edge("14: = by one", "1'w=h'=1; law(1,1,2,0)=0; law(1,2,2,0)=1; law(1,3,2,0)=0; law(1,MIN,MIN,0)=1; law(1,MIN,MAX,0)=0");
        ON.edge("14: > by one", "1'w>h'=1; law(1,1,2,0)=0; law(1,2,2,0)=0; law(1,3,2,0)=1; law(1,MAX,MIN,0)=1; law(1,MIN,MAX,0)=0;"
            + "law(1,0,-1,0)=1");
        ON.edge("14: | is 1 or 0", "1'w|h'=1; law(1,0,0,0)=0; law(1,0,2,0)=1; law(1,4,0,0)=1; law(1,4,2,0)=1; law(1,-1,0,0)=1;"
            + "law(1,0,MIN,0)=1");
        ON.edge("14: & is 1 or 0", "1'w&h'=1; law(1,0,0,0)=0; law(1,0,2,0)=0; law(1,4,0,0)=0; law(1,4,2,0)=1; law(1,-1,MIN,0)=1");
        ON.edge("14: ! is 1 or 0", "1'!w'=1; law(1,0,0,0)=1; law(1,1,0,0)=0; law(1,2,0,0)=0; law(1,-1,0,0)=0; law(1,MIN,0,0)=0; 1'!!w'=1;"
            + "law(1,5,0,0)=1; law(1,0,0,0)=0");
        ON.edge("14: signs of one rank from the left", "1'w-h-y'=1; law(1,9,3,2)=4; 1'w/h/y'=1; law(1,90,3,2)=15; 1'w/h*y'=1;"
            + "law(1,90,4,3)=66; 1'w%h*y'=1; law(1,17,10,2)=14");
        ON.edge("14: signs of unlike ranks", "1'w+h*y'=1; law(1,1,2,3)=7; 1'w|h&y'=1; law(1,1,0,0)=1; 1'w<h+y'=1; law(1,2,1,2)=1;"
            + "1'w&h=y'=1; law(1,2,3,3)=1; 1'!w+h'=1; law(1,0,5,0)=6");
    }

    private static void law() {
        ON.edge("14: USE 0 is held within 0 .. 3", "0's'=1; law(0,-1,0,0)=0; law(0,0,0,0)=0; law(0,1,0,0)=1; law(0,3,0,0)=3;"
            + "law(0,4,0,0)=3; law(0,MIN,0,0)=0; law(0,MAX,0,0)=3");
        ON.edge("14: USE 0 without a TEXT is held likewise", "law(0,-1,3,3)=0; law(0,0,3,3)=0; law(0,1,3,3)=1; law(0,3,0,0)=3;"
            + "law(0,4,0,0)=3; law(0,MIN,3,3)=0; law(0,MAX,0,0)=3");
        ON.edge("14: USE 1 is held within 0 .. 99", "1'w'=1; law(1,-1,0,0)=0; law(1,0,0,0)=0; law(1,1,0,0)=1; law(1,99,0,0)=99;"
            + "law(1,100,0,0)=99; law(1,MIN,0,0)=0; law(1,MAX,0,0)=99");
        ON.edge("14: USE 1 without a TEXT is held likewise", "law(1,-1,9,9)=0; law(1,0,9,9)=0; law(1,1,9,9)=1; law(1,99,0,0)=99;"
            + "law(1,100,0,0)=99; law(1,MIN,9,9)=0; law(1,MAX,0,0)=99");
        ON.edge("14: NAMES of USE 0 in order", "0's'=1; law(0,1,2,3)=1; 0'd'=1; law(0,1,2,3)=2; 0'f'=1; law(0,1,2,3)=3");
        ON.edge("14: NAMES of USE 1 in order", "1'w'=1; law(1,1,2,3)=1; 1'h'=1; law(1,1,2,3)=2; 1'y'=1; law(1,1,2,3)=3");
        ON.edge("14: NAMES are any number", "0'(s=0-9999)+(d<0)+(f>9999)'=1; law(0,-9999,MIN,MAX)=3; law(0,9999,MAX,MIN)=0");
        ON.refused("14", WORLD, "law(-1,0,0,0)=BEYOND", "law(2,0,0,0)=BEYOND", "law(MIN,0,0,0)=BEYOND", "law(MAX,0,0,0)=BEYOND");
        ON.same("14: all stays as it is", WORLD, WORLD + "law(0,9,9,9); law(1,MIN,MAX,0)");
    }

    private static void uses() {
        ON.edge("6: d is the rest of DAY by 7", "bit(0,0,0); 0'd=6'; day(6); bitIs(0,5)=1; day(7); bitIs(0,5)=0; day(13); bitIs(0,5)=1;"
            + "0'd'; day(7); bitIs(0,5)=0;"
            + "day(8); bitIs(0,5)=1; day(9999); bitIs(0,5)=3");
        ON.edge("6: f is FAR to the PLACE of its FIELD", ROW + "bit(0,0,9); 0'f=9'; bitIs(0,5)=1; lay(0,1); 0'f'; bitIs(0,5)=1; lay(0,3);"
            + "bitIs(0,5)=3; lay(0,0); bitIs(0,5)=0");
        ON.edge("6: f is 0: there is no WAY", "bit(0,0,9); 0'f=0'; bitIs(0,5)=1; opens(0,9,1); bitIs(0,5)=0");
        ON.edge("6: s is how it WALKS", "bit(50,0,0); 0's-1'; bitIs(0,5)=2; day(1); bitIs(0,5)=0; become(0,0); 0's+1'; bitIs(0,5)=2");
        ON.edge("6: STEPS are held within 0 .. 3", "bit(0,0,0); 0's-2'; bitIs(0,5)=0; 0's+3'; bitIs(0,5)=3; 0's+2'; bitIs(0,5)=3; 0's-1';"
            + "bitIs(0,5)=0");
        ON.edge("6: w is what it WEIGHS", "bit(69,0,0); 1'w-9'; bitIs(0,6)=48; become(0,0); bitIs(0,6)=1");
        ON.edge("6: h is HEARD", "bit(0,0,0); 1'h'; bitIs(0,6)=0; hears(0,9); bitIs(0,6)=9");
        ON.edge("6: y is the rest of DAY by 10", "bit(0,0,0); 1'y'; day(9); bitIs(0,6)=9; day(10); bitIs(0,6)=0; day(9999); bitIs(0,6)=9;"
            + "day(9990); bitIs(0,6)=0");
        ON.edge("6: WORTH is held within 0 .. 99", "bit(0,0,0); 1'w+89'; bitIs(0,6)=99; 1'w+90'; bitIs(0,6)=99; 1'w-10'; bitIs(0,6)=0;"
            + "1'w-11'; bitIs(0,6)=0; 1'w+88'; bitIs(0,6)=98");
    }

    private static void untell() {
        ON.edge("13: the lowest and the highest USE", "0'2'; 1'9'; untell(0)=1; law(0,1,0,0)=1; law(1,1,0,0)=9; untell(1)=1;"
            + "law(1,1,0,0)=1");
        ON.edge("13: there was none", "untell(0)=0; untell(1)=0; 0'2'; untell(0)=1; untell(0)=0; untell(1)=0");
        ON.edge("13: a TEXT that gives 0 is one", "0'0'; untell(0)=1; untell(0)=0");
        ON.edge("13: a TEXT again behind it", "0'2'; untell(0)=1; 0'3'=1; law(0,1,0,0)=3; untell(0)=1");
        ON.edge("13: THE TAPE stays", "0'2'; '1+1'; untell(0)=1; count(3)=3; text(0)=1; law(0,9,0,0)=2");
        ON.refused("13", WORLD, "untell(-1)=BEYOND", "untell(2)=BEYOND", "untell(MIN)=BEYOND", "untell(MAX)=BEYOND");
    }

    public static void main(String[] args) {
        feed();
        text();
        numbers();
        faults();
        open();
        values();
        law();
        uses();
        untell();
        ON.end();
    }
}
