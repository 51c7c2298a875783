import java.util.NoSuchElementException;

/** Promises 1 to 13: the drawing. */
public final class DrawingTest {
    private static final Check C = new Check();
    private static final Class<NoSuchElementException> NO_SUCH = NoSuchElementException.class;
    private static final Class<IllegalArgumentException> WRONG = IllegalArgumentException.class;
    private static final Class<IllegalStateException> STATE = IllegalStateException.class;

    private DrawingTest() {
    }

    public static void main(String[] args) {
        p1New();
        p2Feed();
        p3Drawing();
        p3Words();
        p4Tokens();
        p4Faults();
        p4FaultsOfDrawing();
        p5Line();
        p6LineAt();
        p7Ends();
        p8Knot();
        p9And10Parts();
        p11Length();
        p12Crossings();
        p13Alike();
        C.end();
    }

    private static void p1New() {
        BothSides x = new BothSides();
        C.due("p1 NONE", BothSides.NONE, -1);
        C.due("p1 SPENT", BothSides.SPENT, -2);
        for (int what = 0; what < 5; what++) {
            C.due("p1 count " + what, x.count(what), 0);
        }
        C.due("p1 may", x.may(0), 1);
        C.due("p1 stitch", x.stitch(7), 1);
        C.due("p1 knot", x.knot(0), -1);
        C.due("p1 lineAt", x.lineAt(0, 0), -1);
        C.due("p1 fault", x.fault(0), 0);
        C.due("p1 fault place", x.fault(1), -1);
        C.due("p1 places", x.places(3), 288);
        C.throwing("p1 line", NO_SUCH, () -> x.line(0, 0));
        C.throwing("p1 left", STATE, x::left);
        for (int t = 0; t < 4; t++) {
            int tray = t;
            C.throwing("p1 write", STATE, () -> x.write(tray, 0, 0));
        }
        C.throwing("p1 restore", STATE, () -> {
            x.restore(0);
            return 0;
        });
        x.begin(143, 3, true);
        C.due("p1 begin on the bare cloth", x.left(), 0);
        C.due("p1 ending there", x.ending(), 143);
        C.due("p1 working there", x.working(-1), 0);
        C.due("p1 ways there", x.ways(), 1);
    }

    private static void p2Feed() {
        BothSides x = new BothSides();
        for (int k = 1; k <= 35; k++) {
            C.due("p2 feed", x.feed(k, k, k, k, k), 20 * k);
        }
        C.due("p2 one too many", x.feed(0x65617374, 0x20313b20, 0, 0, 0), -1);
        C.due("p2 nothing changed", x.count(4), 700);
        C.due("p2 its first byte is 0", x.drawing(700), -11);
        C.due("p2 place", x.fault(1), 0);
        C.due("p2 again", x.feed(0x65617374, 0x20313b20, 0x6e6f7274, 0x6820323b, -1), 20);
        C.due("p2 highest first", x.drawing(16), 3);
        C.due("p2 north", x.line(2, 1), 25);
        x.feed(0x20202020, 0x20202020, 0x20202020, 0x20202020, 0x202020ff);
        C.due("p2 a byte above 127", x.drawing(20), -11);
        C.due("p2 it is the last", x.fault(1), 19);
    }

    private static void p3Drawing() {
        BothSides x = new BothSides();
        Check.feed(x, "at 2 3;ink 1;knot 4 4;northeast 2;");
        C.throwing("p3 below 0", WRONG, () -> x.drawing(-1));
        C.throwing("p3 above", WRONG, () -> x.drawing(41));
        C.throwing("p3 least", WRONG, () -> x.drawing(Integer.MIN_VALUE));
        C.throwing("p3 most", WRONG, () -> x.drawing(Integer.MAX_VALUE));
        C.due("p3 throws change nothing", x.count(4), 40);
        C.due("p3 drawn", x.drawing(40), 2);
        C.due("p3 the tape is empty", x.count(4), 0);
        C.throwing("p3 nothing more on it", WRONG, () -> x.drawing(1));
        x.begin(38, 1, true);
        x.stitch(1);
        C.due("p3 faulty", Check.draw(x, "east;"), -12);
        C.due("p3 the tape is empty then too", x.count(4), 0);
        C.due("p3 lines stay", x.count(0), 2);
        C.due("p3 knots stay", x.count(1), 1);
        C.due("p3 the thread stays", x.thread(0), 51);
        C.due("p3 what is worked stays", x.line(0, 3), 1);
        C.due("p3 can't be drawn", Check.draw(x, "knot 1 1;east 11;east 1;"), -15);
        C.due("p3 knots stay then", x.knot(0), 52);
        C.due("p3 lines stay then", x.line(0, 0), 38);
        C.due("p3 new", Check.draw(x, "at 2 3;ink 1;northeast 2;"), 2);
        C.due("p3 nothing is worked", x.line(0, 3), 0);
        C.due("p3 no knots", x.count(1), 0);
        C.due("p3 nothing was cut", x.count(2), 0);
        C.throwing("p3 no thread", STATE, x::left);
        C.due("p3 the empty text", x.drawing(0), 0);
        C.due("p3 only blanks", Check.draw(x, " \n \n"), 0);
        Check.feed(x, "east 1;east 1;");
        C.due("p3 the first n alone", x.drawing(8), -12);
        C.due("p3 a piece of a word", x.fault(1), 7);
    }

    private static void p3Words() {
        String[] words = {"east", "northeast", "north", "northwest", "west", "southwest", "south", "southeast"};
        int[] to = {66, 78, 77, 76, 64, 52, 53, 54};
        for (int way = 0; way < 8; way++) {
            BothSides x = Check.drawn("at 5 5;" + words[way] + " 1;");
            C.due("p3 " + words[way], x.line(0, 1), to[way]);
            x = Check.drawn("at 5 5;turn(" + words[way] + " 1;);");
            C.due("p3 turned " + words[way], x.line(0, 1), to[(way + 2) % 8]);
            x = Check.drawn("at 5 5;mirror(" + words[way] + " 1;);");
            C.due("p3 mirrored " + words[way], x.line(0, 1), to[(8 - way) % 8]);
            x = Check.drawn("at 5 5;mirror(turn(" + words[way] + " 1;););");
            C.due("p3 turned, then mirrored " + words[way], x.line(0, 1), to[(16 - way - 2) % 8]);
            x = Check.drawn("at 5 5;turn(mirror(" + words[way] + " 1;););");
            C.due("p3 mirrored, then turned " + words[way], x.line(0, 1), to[(8 - way + 2) % 8]);
            x = Check.drawn("at 5 5;turn(turn(times 1(mirror(turn(" + words[way] + " 1;););););); ");
            C.due("p3 five deep " + words[way], x.line(0, 1), to[(8 - way - 2 + 4 + 8) % 8]);
        }
        C.due("p3 no line twice", Check.draw(new BothSides(), "east 3;west 3;east 3;"), 3);
        BothSides x = Check.drawn("ink 2;east 1;ink 3;west 1;north 1;");
        C.due("p3 the old ink stays", x.line(0, 2), 2);
        C.due("p3 where it was drawn from stays", x.line(0, 0), 0);
        C.due("p3 then the new one", x.line(1, 2), 3);
        x = Check.drawn("times 12(east 1;north 1;west 1;turn(west 1;););times 3(northeast 2;);");
        C.due("p3 repeats", x.count(0), 4 + 6);
        C.due("p3 the last end", x.line(9, 1), 78);
        x = Check.drawn("ink 2;at 4 4;times 12(times 12(east 3;west 3;););");
        for (int round = 0; round < 3; round++) {
            C.due("p3 a second drawing begins anew", Check.draw(x, "times 12(times 12(east 3;west 3;););"), 3);
            C.due("p3 at the first hole", x.line(0, 0), 0);
            C.due("p3 with the first ink", x.line(0, 2), 0);
        }
        x = Check.drawn("at 1 1;turn(at 3 3;ink 1;);east 1;");
        C.due("p3 the pen goes on from a block", x.line(0, 0), 39);
        C.due("p3 with its ink", x.line(0, 2), 1);
        x = Check.drawn("times 12(times 12(times 12(times 12(times 12(at 2 2;knot 3 3;););););east 1;);east 1;");
        C.due("p3 blocks without ways", x.count(0), 2);
        C.due("p3 and what they set", x.line(1, 0), 27);
        x = Check.drawn("times 1();turn();mirror();times 12(turn(););");
        C.due("p3 empty blocks", x.count(0), 0);
        C.due("p3 and no fault", x.fault(0), 0);
    }

    private static void faulty(String text, int kind, int place) {
        BothSides x = new BothSides();
        C.due("p4 drawing of " + text, Check.draw(x, text), kind == 0 ? x.count(0) : -10 - kind);
        C.due("p4 fault of " + text, x.fault(0), kind);
        C.due("p4 place in " + text, x.fault(1), place);
    }

    private static void p4Tokens() {
        faulty("east1;at003 010;north\n\n01;", 0, -1);
        faulty("times2(turn(east1;););", 0, -1);
        faulty("east\t1;", 1, 4);
        faulty("east\r1;", 1, 4);
        faulty("East 1;", 1, 0);
        faulty("eaSt 1;", 2, 0);
        faulty("east 1 ,", 1, 7);
        faulty("east 1\u00e9", 1, 6);
        faulty("east -1;", 1, 5);
        faulty("east 0001;", 1, 5);
        faulty("0001 ?", 1, 0);
        faulty("east 12345678901234567890;", 1, 5);
        faulty("east 1;;", 2, 7);
        faulty("eas 1;", 2, 0);
        faulty("easts 1;", 2, 0);
        faulty("a 1;", 2, 0);
        faulty("zz 1;", 2, 0);
        faulty("easz 1;", 2, 0);
        faulty("`", 1, 0);
        faulty("{", 1, 0);
        faulty("east 1/", 1, 6);
        faulty("east 1:", 1, 6);
        faulty("east east 1;", 2, 5);
        faulty("eastat 1;", 2, 0);
        faulty("at 1;", 2, 4);
        faulty("at 1 1 1;", 2, 7);
        faulty("at 111;", 3, 3);
        faulty("ink;", 2, 3);
        faulty("ink 1 1;", 2, 6);
        faulty("knot 1 1 east 1;", 2, 9);
        faulty("times (east 1;);", 2, 6);
        faulty("times 2;", 2, 7);
        faulty("turn 2(east 1;);", 2, 5);
        faulty("mirror;", 2, 6);
        faulty("1;", 2, 0);
        faulty("(east 1;);", 2, 0);
        faulty(");", 2, 0);
        faulty("turn(east 1;));", 2, 13);
        faulty("turn(east 1);", 2, 11);
        faulty("turn(east 1;) east 1;", 2, 14);
    }

    private static void p4Faults() {
        faulty("east 1", 2, 6);
        faulty("east 1  \n", 2, 9);
        faulty("east", 2, 4);
        faulty("at", 2, 2);
        faulty("at 1", 2, 4);
        faulty("times 3", 2, 7);
        faulty("turn(", 2, 5);
        faulty("turn(east 1;", 2, 12);
        faulty("turn(east 1;)", 2, 13);
        faulty("at 0 0;at 11 11;at 0 12;", 3, 21);
        faulty("at 12 0;", 3, 3);
        faulty("knot 11 0;knot 12 0;", 3, 15);
        faulty("knot 0 11;knot 0 012;", 3, 17);
        faulty("ink 0;ink 3;ink 4;", 3, 16);
        faulty("east 0;", 3, 5);
        faulty("east 11;west 11;east 12;", 3, 21);
        faulty("east 000;", 3, 5);
        faulty("times 12();times 0();", 3, 17);
        faulty("times 13(", 3, 6);
        faulty("east 12 ?", 3, 5);
        faulty("east 99 99", 3, 5);
        faulty("turn(turn(turn(turn(turn(turn(", 4, 29);
        faulty("turn(turn(turn(turn(turn(?", 1, 25);
        faulty("turn(turn(turn(turn(turn();turn(", 2, 32);
        faulty("turn(turn(turn(turn(turn((", 2, 25);
        faulty("turn(turn(turn(turn(turn(turn 1", 2, 30);
        faulty("turn(turn(turn(turn(turn(times 0(", 3, 31);
        faulty("turn(turn(turn(turn(turn(););););times 2(mirror(east 1;);););", 0, -1);
        faulty("west 1;?", 1, 7);
        faulty("turn(turn(turn(turn(turn(east 1;););););); turn(turn(turn(turn(turn(turn (?", 4, 73);
        BothSides x = new BothSides();
        Check.draw(x, "at 12 1;");
        C.throwing("p4 throws", WRONG, () -> x.drawing(1));
        C.due("p4 a throw changes no fault", x.fault(0), 3);
        C.due("p4 nor its place", x.fault(1), 3);
        C.due("p4 another what", x.fault(2), -1);
        C.due("p4 another what", x.fault(-1), -1);
        C.due("p4 another what", x.fault(Integer.MIN_VALUE), -1);
        Check.draw(x, "east 1;");
        C.due("p4 without a fault", x.fault(0), 0);
        C.due("p4 without a place", x.fault(1), -1);
    }

    private static void p4FaultsOfDrawing() {
        faulty("at 11 0;east 1;", 5, 8);
        faulty("at 11 11;knot 1 1; north 1;", 5, 19);
        faulty("at 0 5; northwest 1;", 5, 8);
        faulty("south 1;", 5, 0);
        faulty("  south 1;", 5, 2);
        faulty("east 3;turn(turn(east 4;););", 5, 17);
        faulty("east 1;times 12(east 1;);", 5, 16);
        String rows = "times 5(east 11;west 11;north 1;);";
        // five rows of 11 LINES and one upwards each are 60
        faulty(rows, 0, -1);
        C.due("p4 sixty lines", Check.drawn(rows).count(0), 60);
        faulty(rows + "south 5;east 11;", 0, -1);
        faulty(rows + "east 1;", 6, 34);
        faulty(rows + "at 11 0; east 1;", 5, 43);
        // a round is ten steps, so a hundred rounds are a thousand
        String round = "times 10(times 10(east 5;west 5;););";
        faulty(round, 0, -1);
        faulty(round + "at 0 0;east 1;", 7, 43);
        faulty("times 10(times 10(east 5;west 5;);east 1;west 1;);", 7, 18);
        faulty(round + "west 1;", 5, 36);
        faulty("times 11(times 10(east 5;west 5;););", 7, 18);
        // 110 + 5 steps for 60 LINES, then 88 rounds of ten, and five more make 1,000
        String both = rows + "at 0 0;times 11(times 8(east 5;west 5;););";
        faulty(both + "east 5;", 0, -1);
        faulty(both + "east 6;", 7, both.length());
        faulty(both + "east 5;at 0 5;east 1;", 6, both.length() + 14);
        faulty(both + "east 5;at 0 5;west 1;", 5, both.length() + 14);
    }

    private static void p5Line() {
        BothSides x = Check.drawn("at 3 2;ink 3;southwest 1;ink 0;east 1;");
        C.due("p5 from", x.line(0, 0), 27);
        C.due("p5 to", x.line(0, 1), 14);
        C.due("p5 ink", x.line(0, 2), 3);
        C.due("p5 not worked", x.line(0, 3), 0);
        C.due("p5 the next", x.line(1, 0), 14);
        C.due("p5 its ink", x.line(1, 2), 0);
        x.begin(14, 3, false);
        x.stitch(1);
        C.due("p5 under", x.line(0, 3), 2);
        x.stitch(5);
        C.due("p5 both", x.line(0, 3), 3);
        x.begin(15, 0, true);
        x.stitch(4);
        C.due("p5 over", x.line(1, 3), 1);
        C.throwing("p5 no such line", NO_SUCH, () -> x.line(2, 0));
        C.throwing("p5 no such line", NO_SUCH, () -> x.line(-1, 0));
        C.throwing("p5 line ahead of what", NO_SUCH, () -> x.line(2, 9));
        C.throwing("p5 what", WRONG, () -> x.line(0, 4));
        C.throwing("p5 what", WRONG, () -> x.line(1, -1));
    }

    private static void p6LineAt() {
        BothSides x = Check.drawn("at 5 5;times 4(turn(east 1;west 1;););northeast 1;southwest 2;");
        C.due("p6 lines", x.count(0), 3);
        C.due("p6 north", x.lineAt(65, 2), 0);
        C.due("p6 back", x.lineAt(77, 6), 0);
        C.due("p6 northeast", x.lineAt(65, 1), 1);
        C.due("p6 back", x.lineAt(78, 5), 1);
        C.due("p6 southwest", x.lineAt(65, 5), 2);
        C.due("p6 back", x.lineAt(52, 1), 2);
        C.due("p6 none", x.lineAt(65, 0), -1);
        x = Check.drawn("at 11 0;north 1;west 1;");
        C.due("p6 off the cloth", x.lineAt(11, 0), -1);
        C.due("p6 not round the cloth", x.lineAt(12, 4), -1);
        BothSides y = x;
        C.due("p6 last hole", x.lineAt(143, 2), -1);
        C.throwing("p6 hole", NO_SUCH, () -> y.lineAt(-1, 0));
        C.throwing("p6 hole", NO_SUCH, () -> y.lineAt(144, 0));
        C.throwing("p6 way", NO_SUCH, () -> y.lineAt(0, 8));
        C.throwing("p6 way", NO_SUCH, () -> y.lineAt(0, -1));
        BothSides star = Check.drawn("times 2(at 5 5;east 1;at 5 5;north 1;at 5 5;west 1;at 5 5;south 1;"
            + "at 5 5;northeast 1;at 5 5;northwest 1;at 5 5;southwest 1;at 5 5;southeast 1;);");
        int[] due = {0, 4, 1, 5, 2, 6, 3, 7};
        for (int way = 0; way < 8; way++) {
            C.due("p6 star " + way, star.lineAt(65, way), due[way]);
        }
    }

    private static void p7Ends() {
        BothSides x = Check.drawn("at 5 5;east 1;at 5 5;ink 1;north 1;at 5 5;west 1;south 1;");
        C.due("p7 of ink 0", x.ends(65, 0), 1);
        C.due("p7 of ink 1", x.ends(65, 1), 2);
        C.due("p7 of ink 2", x.ends(65, 2), 0);
        C.due("p7 of all", x.ends(65, -1), 3);
        C.due("p7 elsewhere", x.ends(64, 1), 2);
        C.due("p7 bare", x.ends(0, -1), 0);
        C.throwing("p7 hole", NO_SUCH, () -> x.ends(144, 0));
        C.throwing("p7 hole", NO_SUCH, () -> x.ends(-1, -1));
        C.throwing("p7 hole ahead of ink", NO_SUCH, () -> x.ends(144, 7));
        C.throwing("p7 ink", WRONG, () -> x.ends(0, 4));
        C.throwing("p7 ink", WRONG, () -> x.ends(0, -2));
    }

    private static void p8Knot() {
        BothSides x = Check.drawn("knot 11 11;knot 0 0;knot 3 1;turn(mirror(knot 3 1;knot 1 3;););");
        int[] due = {0, 15, 37, 143, -1};
        for (int k = 0; k < 5; k++) {
            C.due("p8 knot " + k, x.knot(k), due[k]);
        }
        C.due("p8 below 0", x.knot(-1), -1);
        C.due("p8 far above", x.knot(Integer.MAX_VALUE), -1);
        C.due("p8 how many", x.count(1), 4);
        C.due("p8 none", Check.drawn("east 1;").knot(0), -1);
    }

    private static void p9And10Parts() {
        BothSides x = Check.drawn("east 1;at 5 5;east 1;at 1 0;north 1;ink 1;west 1;south 1;at 6 5;east 1;at 9 9;east 1;");
        C.due("p9 of ink 0", x.parts(0), 2);
        C.due("p9 of ink 1", x.parts(1), 3);
        C.due("p9 of ink 2", x.parts(2), 0);
        C.throwing("p9 ink", WRONG, () -> x.parts(4));
        C.throwing("p9 ink", WRONG, () -> x.parts(-1));
        int[] due = {0, 1, 0, 3, 3, 5, 6};
        for (int line = 0; line < 7; line++) {
            C.due("p10 of line " + line, x.partOf(line), due[line]);
        }
        C.throwing("p10 line", NO_SUCH, () -> x.partOf(7));
        C.throwing("p10 line", NO_SUCH, () -> x.partOf(-1));
        C.due("p9 crossed lines are apart", Check.drawn("northeast 1;at 1 0;northwest 1;").parts(0), 2);
        BothSides late = Check.drawn("at 2 0;east 1;at 0 0;east 1;east 1;");
        C.due("p9 joined by the last", late.parts(0), 1);
        C.due("p10 joined by the last", late.partOf(1), 0);
        C.due("p9 sixty lines", Check.drawn("times 5(east 11;west 11;north 1;);").parts(0), 1);
        C.due("p10 the sixtieth", Check.drawn("times 5(east 11;west 11;north 1;);").partOf(59), 0);
    }

    private static void p11Length() {
        BothSides x = Check.drawn("at 5 5;east 1;north 1;west 1;south 1;ink 1;northeast 1;ink 2;at 2 2;northwest 1;"
            + "at 8 8;southeast 1;at 8 8;southwest 1;");
        C.due("p11 upright", x.length(0), 80);
        C.due("p11 northeast", x.length(1), 28);
        C.due("p11 slants", x.length(2), 84);
        C.due("p11 none", x.length(3), 0);
        C.due("p11 of all", x.length(-1), 192);
        C.throwing("p11 ink", WRONG, () -> x.length(-2));
        C.throwing("p11 ink", WRONG, () -> x.length(4));
    }

    private static void p12Crossings() {
        BothSides x = Check.drawn("northeast 1;south 1;northwest 1;");
        C.due("p12 one", x.crossings(false), 1);
        C.due("p12 of one ink", x.crossings(true), 0);
        x = Check.drawn("at 5 5;southwest 1;ink 1;at 4 5;southeast 1;");
        C.due("p12 of two inks", x.crossings(true), 1);
        C.due("p12 of any", x.crossings(false), 1);
        C.due("p12 neighbours don't cross", Check.drawn("northeast 1;southeast 1;").crossings(false), 0);
        C.due("p12 upright ones don't", Check.drawn("at 5 5;east 1;west 2;east 1;north 1;south 2;").crossings(false), 0);
        x = Check.drawn("at 10 10;northeast 1;ink 1;at 11 10;northwest 1;at 0 0;northeast 1;at 1 0;northwest 1;"
            + "ink 3;at 0 10;northeast 1;at 1 10;northwest 1;");
        C.due("p12 at the corners", x.crossings(false), 3);
        C.due("p12 unlike at the corners", x.crossings(true), 1);
    }

    private static void alike(String text, boolean quarter, boolean half, boolean west, boolean south) {
        BothSides x = Check.drawn(text);
        C.due("p13 quarter " + text, x.alike(0), quarter);
        C.due("p13 half " + text, x.alike(1), half);
        C.due("p13 west for east " + text, x.alike(2), west);
        C.due("p13 south for north " + text, x.alike(3), south);
    }

    private static void p13Alike() {
        alike("", true, true, true, true);
        alike("knot 3 4;", true, true, true, true);
        alike("at 7 7;east 1;", false, true, true, true);
        alike("at 7 7;northeast 1;", false, true, false, false);
        alike("at 7 7;knot 2 2;east 1;north 1;", false, false, false, false);
        alike("at 10 10;east 1;north 1;west 1;south 1;", true, true, true, true);
        alike("at 0 3;north 1;", false, true, true, true);
        alike("at 3 0;east 1;", false, true, true, true);
        alike("at 11 3;north 2;", false, true, true, true);
        alike("at 3 11;east 2;", false, true, true, true);
        alike("northeast 1;", false, true, false, false);
        alike("at 11 11;southwest 1;", false, true, false, false);
        alike("at 10 10;east 1;north 1;ink 1;west 1;south 1;", false, false, false, false);
        alike("at 10 10;east 1;ink 1;north 1;ink 0;west 1;ink 1;south 1;", false, true, true, true);
        // a wheel of four hooks: by turns alone
        alike("at 5 5;east 2;north 1;at 5 5;north 2;west 1;at 5 5;west 2;south 1;at 5 5;south 2;east 1;",
            true, true, false, false);
        alike("at 5 5;east 2;north 1;at 5 5;west 2;south 1;", false, true, false, false);
        alike("at 0 3;north 1;at 1 3;north 1;west 1;", false, false, true, false);
        alike("at 3 0;east 1;at 3 1;east 1;at 3 0;north 1;", false, false, false, true);
        alike("at 3 3;east 1;at 8 3;east 1;at 8 3;north 1;", false, false, false, false);
        BothSides x = new BothSides();
        C.throwing("p13 by", WRONG, () -> x.alike(4) ? 1 : 0);
        C.throwing("p13 by", WRONG, () -> x.alike(-1) ? 1 : 0);
    }
}
