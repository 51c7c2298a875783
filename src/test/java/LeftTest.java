/** Promises 23 to 31: what is left, the fewest threads. */
public final class LeftTest {
    private static final Check C = new Check();
    private static final Class<IllegalArgumentException> WRONG = IllegalArgumentException.class;
    private static final Class<IllegalStateException> STATE = IllegalStateException.class;
    private static final String SQUARE = "east 1;north 1;west 1;south 1;";
    private static final String STAR = "at 1 1;east 1;at 1 1;north 1;at 1 1;west 1;at 1 1;south 1;at 1 1;"
        + "northeast 1;at 1 1;northwest 1;at 1 1;southwest 1;at 1 1;southeast 1;";

    private LeftTest() {
    }

    public static void main(String[] args) {
        p23Left();
        p24Barred();
        p24SecondHole();
        p25Ending();
        p26Working();
        p27Work();
        p28Ways();
        p29UnpickedFromTheEnd();
        p29UnpickedFromBothEnds();
        p30Places();
        p31Threads();
        p31Knots();
        C.end();
    }

    private static void p23Left() {
        BothSides x = Check.drawn(SQUARE + "ink 1;east 3;");
        C.throwing("p23 no thread", STATE, x::left);
        x.begin(0, 0, true);
        C.due("p23 of its ink", x.left(), 8);
        x.stitch(0);
        C.due("p23 one is worked", x.left(), 7);
        x.stitch(4);
        C.due("p23 both faces", x.left(), 6);
        x.begin(1, 1, false);
        C.due("p23 of the other ink", x.left(), 4);
        x.begin(1, 2, false);
        C.due("p23 of an ink without lines", x.left(), 0);
        x.begin(1, 0, false);
        C.due("p23 what other threads worked", x.left(), 6);
        x.cut();
        C.throwing("p23 cut", STATE, x::left);
    }

    private static void bars(String what, BothSides x, int kind, int at) {
        C.due("p24 " + what, x.barred(0), kind);
        C.due("p24 where: " + what, x.barred(1), at);
        C.due("p24 ending: " + what, x.ending() == -1, kind != 0);
    }

    private static void p24Barred() {
        BothSides none = Check.drawn(SQUARE);
        C.throwing("p24 no thread", STATE, () -> none.barred(0));
        C.throwing("p24 no thread ahead of what", STATE, () -> none.barred(2));
        none.begin(0, 0, true);
        C.throwing("p24 what", WRONG, () -> none.barred(2));
        C.throwing("p24 what", WRONG, () -> none.barred(-1));
        bars("a square", none, 0, -1);
        bars("far away", Check.begun(SQUARE, 143, true), 1, 0);
        bars("nothing left", Check.begun("ink 1;east 1;", 143, true), 0, -1);
        bars("lines of another ink lead no further", Check.begun("east 1;ink 1;east 1;ink 0;east 1;", 0, true), 1, 2);
        bars("crossed lines don't hang together", Check.begun("northeast 1;at 1 0;northwest 1;", 0, true), 1, 1);
        bars("the first such line", Check.begun("at 5 5;east 1;at 0 0;east 1;at 9 9;east 1;", 0, false), 1, 0);
        BothSides x = Check.begun("east 3;", 0, true);
        Check.sew(x, "0");
        bars("in a row", x, 0, -1);
        Check.sew(x, "4");
        bars("cut off", x, 1, 1);
        x.begin(1, 0, true);
        bars("from the next hole", x, 0, -1);
        Check.sew(x, "04");
        bars("from there no more", x, 1, 2);
    }

    private static void p24SecondHole() {
        // over along a row of two lines and cut: over and under are left by turns
        BothSides x = Check.begun("east 2;", 0, true);
        Check.sew(x, "00");
        x.begin(0, 0, true);
        bars("more than one too many", x, 2, 0);
        x.begin(0, 0, false);
        bars("so it goes", x, 0, -1);
        x.begin(1, 0, true);
        bars("the first hole is one too many, the second bars", x, 2, 1);
        x.begin(2, 0, false);
        bars("the second one is too many by two", x, 2, 2);
        x.begin(2, 0, true);
        bars("from the other end", x, 0, -1);
        C.due("p24 to the first", x.ending(), 0);
        // three bars hang at hole 13, over is done on all of them
        BothSides y = Check.drawn("at 1 1;east 1;at 1 1;north 1;at 1 1;west 1;");
        for (int way = 0; way < 5; way += 2) {
            y.begin(13, 0, true);
            y.stitch(way);
        }
        y.begin(13, 0, false);
        bars("the first hole ahead of the greater fault", y, 2, 13);
        y.begin(14, 0, false);
        bars("hole 12 is one too many, then 13", y, 2, 13);
        // a part that doesn't hang together comes ahead of stitches that don't match
        BothSides z = Check.drawn("east 2;at 5 5;east 1;");
        z.begin(0, 0, true);
        Check.sew(z, "00");
        z.begin(0, 0, true);
        bars("1 ahead of 2", z, 1, 2);
    }

    private static void p25Ending() {
        BothSides none = Check.drawn(SQUARE);
        C.throwing("p25 no thread", STATE, none::ending);
        C.due("p25 back to the beginning", Check.begun(SQUARE, 13, false).ending(), 13);
        C.due("p25 a row from its middle", Check.begun("at 3 3;east 2;", 40, true).ending(), 40);
        C.due("p25 apart", Check.begun(SQUARE, 14, true).ending(), -1);
        C.due("p25 nothing left", Check.begun("", 77, true).ending(), 77);
        BothSides x = Check.begun("at 3 3;east 3;", 39, true);
        Check.sew(x, "000");
        C.due("p25 back by the other faces", x.ending(), 39);
        x.begin(39, 0, false);
        C.due("p25 anew from the beginning", x.ending(), 42);
        x.begin(39, 0, true);
        C.due("p25 the wrong face", x.ending(), -1);
    }

    private static void p26Working() {
        BothSides none = Check.drawn(SQUARE);
        C.throwing("p26 no thread", STATE, () -> none.working(0));
        none.begin(0, 0, true);
        C.due("p26 a square", Check.working(none), "02406426");
        C.due("p26 from its corner", Check.working(Check.begun(SQUARE, 13, false)), "40642602");
        C.due("p26 with a tail", Check.working(Check.begun("east 1;" + SQUARE, 0, true)), "0024064264");
        C.due("p26 to and fro at once", Check.working(Check.begun("at 3 3;east 2;", 39, true)), "0044");
        C.due("p26 from the middle", Check.working(Check.begun("at 3 3;east 2;", 40, true)), "0440");
        C.due("p26 the least way that still can", Check.working(Check.begun("at 5 5;east 1;at 5 5;southeast 1;", 65, true)), "0473");
        BothSides x = Check.begun("east 3;", 1, true);
        C.due("p26 east and west", Check.working(x), "004440");
        C.due("p26 how many", x.working(-1), 6);
        C.due("p26 the first", x.working(0), 0);
        C.due("p26 the last", x.working(5), 0);
        C.due("p26 not so many", x.working(6), -1);
        C.due("p26 below NONE", x.working(-2), -1);
        C.due("p26 far above", x.working(Integer.MAX_VALUE), -1);
        C.due("p26 nothing is done", x.thread(2), 0);
        BothSides far = Check.begun(SQUARE, 143, true);
        C.due("p26 there is none", far.working(-1), -1);
        C.due("p26 nor a stitch of it", far.working(0), -1);
        C.due("p26 nothing left", Check.begun("", 5, true).working(-1), 0);
        C.due("p26 nothing left, its first", Check.begun("", 5, true).working(0), -1);
        C.due("p26 a star", Check.working(Check.begun(STAR, 13, true)), "0415263740516273");
        C.due("p26 turned", Check.working(Check.begun("at 5 5;turn(" + SQUARE + ");", 65, true)), "24064260");
    }

    private static void p27Work() {
        BothSides x = Check.drawn("at 3 3;east 2;ink 1;north 1;");
        C.throwing("p27 no thread", STATE, x::work);
        x.begin(40, 0, false);
        String due = Check.working(x);
        C.due("p27 how many", x.work(), 4);
        StringBuilder row = new StringBuilder();
        for (int k = 0; k < 4; k++) {
            row.append(x.done(k));
        }
        C.due("p27 the first working", row.toString(), due);
        C.due("p27 nothing left", x.left(), 0);
        C.due("p27 of its ink alone", x.line(2, 3), 0);
        C.due("p27 again", x.work(), 0);
        C.due("p27 the thread goes on", x.thread(2), 4);
        x.begin(40, 1, true);
        C.due("p27 there is none", x.work(), -1);
        C.due("p27 nothing happens", x.thread(2), 0);
        x = Check.begun("east 3;", 0, true);
        Check.sew(x, "00");
        C.due("p27 from where it is", x.work(), 4);
        C.due("p27 six in all", x.thread(2), 6);
        C.due("p27 back", x.thread(0), 0);
        BothSides all = Check.begun("times 5(east 11;west 11;north 1;);", 30, true);
        C.due("p27 sixty lines", all.work(), 120);
        C.due("p27 all are alike", all.same() && all.count(3) == 60, true);
    }

    private static void p28Ways() {
        BothSides none = Check.drawn(SQUARE);
        C.throwing("p28 no thread", STATE, none::ways);
        C.due("p28 nothing left", Check.begun("", 0, true).ways(), 1);
        C.due("p28 barred", Check.begun(SQUARE, 50, true).ways(), 0);
        C.due("p28 a line", Check.begun("east 1;", 1, true).ways(), 1);
        C.due("p28 a row from its middle", Check.begun("east 2;", 1, true).ways(), 2);
        C.due("p28 sixteen left: 8 7 6 5 4 3 2", Check.begun(STAR, 13, true).ways(), 40320);
        C.due("p28 from a ray's end", Check.begun(STAR, 14, true).ways(), 5040);
        BothSides x = Check.begun(STAR + "at 2 1;east 1;", 13, true);
        C.due("p28 eighteen left", x.ways(), -2);
        C.due("p28 too many, though barred", Check.begun(STAR + "at 2 1;east 1;", 143, true).ways(), -2);
        Check.sew(x, "2");
        C.due("p28 seventeen left", x.ways(), -2);
        Check.sew(x, "6");
        C.due("p28 sixteen again", x.ways() > 0, true);
        C.due("p28 of its ink alone", Check.begun("east 1;ink 1;" + STAR, 0, false).ways(), 1);
        BothSides y = Check.begun("at 1 1;east 1;at 1 1;west 1;at 1 1;north 1;", 13, true);
        C.due("p28 six", y.ways(), 6);
        Check.sew(y, "0");
        C.due("p28 behind one", y.ways(), 2);
    }

    private static void unpicked(String what, BothSides x, boolean both, int sum, int first, int last) {
        C.due("p29 " + what, x.unpicked(both, 0), sum);
        C.due("p29 first ones: " + what, x.unpicked(both, 1), first);
        C.due("p29 last ones: " + what, x.unpicked(both, 2), last);
    }

    private static void p29UnpickedFromTheEnd() {
        BothSides none = Check.drawn(SQUARE);
        C.throwing("p29 no thread", STATE, () -> none.unpicked(false, 0));
        C.throwing("p29 no thread ahead of what", STATE, () -> none.unpicked(true, 3));
        none.begin(0, 0, true);
        C.throwing("p29 what", WRONG, () -> none.unpicked(false, 3));
        C.throwing("p29 what", WRONG, () -> none.unpicked(true, -1));
        unpicked("none needed", none, false, 0, 0, 0);
        unpicked("none needed", none, true, 0, 0, 0);
        BothSides x = Check.begun("east 3;", 1, true);
        Check.sew(x, "0440");
        unpicked("back in the middle", x, false, 3, 0, 3);
        C.due("p29 nothing is taken out", x.thread(2), 4);
        unpicked("apart", Check.begun(SQUARE, 100, true), false, -1, -1, -1);
        unpicked("apart", Check.begun(SQUARE, 100, true), true, -1, -1, -1);
        BothSides all = Check.begun("times 5(east 11;west 11;north 1;);", 0, true);
        all.work();
        unpicked("a hundred and twenty", all, false, 0, 0, 0);
        unpicked("a hundred and twenty", all, true, 0, 0, 0);
        BothSides y = Check.begun("east 2;", 0, true);
        Check.sew(y, "00");
        y.begin(0, 0, true);
        unpicked("stitches of a cut thread stay", y, false, -1, -1, -1);
    }

    private static void p29UnpickedFromBothEnds() {
        // the stitch over that is taken out ahead joins what is left again
        BothSides x = Check.begun("east 3;", 2, true);
        Check.sew(x, "400");
        unpicked("from the end", x, false, 2, 0, 2);
        unpicked("from both ends", x, true, 1, 1, 0);
        C.due("p29 nothing is taken out", x.thread(2) + x.thread(4), 5);
        x = Check.begun("east 3;", 3, true);
        Check.sew(x, "440");
        unpicked("the least i", x, true, 1, 0, 1);
        x = Check.begun(SQUARE, 1, true);
        Check.sew(x, "2");
        x.begin(0, 0, true);
        Check.sew(x, "02462");
        unpicked("never from the end alone", x, false, -1, -1, -1);
        unpicked("one from each end", x, true, 2, 1, 1);
        x = Check.begun(SQUARE, 1, true);
        Check.sew(x, "4");
        x.begin(1, 0, true);
        Check.sew(x, "24620");
        unpicked("first ones alone", x, true, 3, 3, 0);
        x = Check.begun("east 2;", 2, true);
        Check.sew(x, "4");
        x.begin(0, 0, true);
        Check.sew(x, "00");
        // from 1, UNDER, all would go; but without any stitch it is where it began, with the first one as it was
        unpicked("where it began", x, true, -1, -1, -1);
        BothSides y = Check.begun("east 2;", 0, false);
        Check.sew(y, "00");
        y.begin(1, 0, true);
        Check.sew(y, "4");
        unpicked("not without the only one", y, false, -1, -1, -1);
        unpicked("nor from both ends", y, true, -1, -1, -1);
        BothSides z = Check.begun("east 3;", 3, true);
        Check.sew(z, "440");
        C.due("p29 all of them", z.unpick(3), 0);
        unpicked("then none", z, true, 0, 0, 0);
    }

    private static void p30Places() {
        C.due("p30 nothing left", Check.drawn("").places(2), 288);
        C.due("p30 a square", Check.drawn(SQUARE).places(0), 8);
        C.due("p30 another ink", Check.drawn(SQUARE).places(1), 288);
        C.due("p30 two parts", Check.drawn("east 1;at 5 5;east 1;").places(0), 0);
        BothSides x = Check.begun("east 3;", 0, true);
        Check.sew(x, "000");
        // left are under, over, under: from both ends, under first
        C.due("p30 as it is worked now", x.places(0), 2);
        C.due("p30 the thread stays", x.thread(0), 3);
        x.cut();
        C.due("p30 without a thread", x.places(0), 2);
        C.throwing("p30 ink", WRONG, () -> x.places(-1));
        C.throwing("p30 ink", WRONG, () -> x.places(4));
    }

    private static void p31Threads() {
        BothSides none = new BothSides();
        C.due("p31 no lines", none.threads(0, 20), 0);
        C.throwing("p31 ink", WRONG, () -> none.threads(-1, 5));
        C.throwing("p31 ink", WRONG, () -> none.threads(4, 5));
        C.throwing("p31 length", WRONG, () -> none.threads(0, 0));
        C.throwing("p31 length", WRONG, () -> none.threads(0, 21));
        C.throwing("p31 length", WRONG, () -> none.threads(3, Integer.MIN_VALUE));
        BothSides row = Check.drawn("east 6;");
        int[] due = {12, 6, 4, 3, 3, 2, 2, 2, 2, 2, 2, 1, 1, 1, 1, 1, 1, 1, 1, 1};
        for (int length = 1; length <= 20; length++) {
            C.due("p31 six in a row by " + length, row.threads(0, length), due[length - 1]);
        }
        C.due("p31 of another ink", row.threads(1, 1), 0);
        C.due("p31 seven lines", Check.drawn("east 7;").threads(0, 20), -2);
        C.due("p31 seven of two inks", Check.drawn("east 6;ink 1;east 1;").threads(0, 20), 1);
        C.due("p31 two parts", Check.drawn("east 1;at 5 5;east 1;").threads(0, 20), 2);
        BothSides x = Check.begun("east 2;", 0, true);
        x.work();
        C.due("p31 as if nothing were worked", x.threads(0, 3), 2);
        C.due("p31 six parts", Check.drawn("east 1;at 0 2;east 1;at 0 4;east 1;at 0 6;east 1;at 0 8;east 1;at 0 10;east 1;").threads(0, 20), 6);
        C.due("p31 six parts elsewhere", Check.drawn("at 4 1;east 1;at 0 2;east 1;at 0 4;east 1;at 0 6;east 1;at 0 8;east 1;at 0 10;east 1;").threads(0, 2), 6);
        C.due("p31 six parts and six knots", Check.drawn("at 4 1;east 1;knot 5 1;at 0 2;east 1;knot 1 2;at 0 4;east 1;knot 1 4;"
            + "at 0 6;east 1;knot 1 6;at 0 8;east 1;knot 1 8;at 0 10;east 1;knot 1 10;").threads(0, 2), 6);
        BothSides inks = Check.drawn("east 6;knot 6 0;ink 1;at 1 2;east 6;knot 7 2;ink 2;at 2 4;east 6;knot 8 4;"
            + "ink 3;at 3 6;east 6;knot 9 6;");
        for (int ink = 0; ink < 4; ink++) {
            C.due("p31 out and back in ink " + ink, inks.threads(ink, 12), 1);
            C.due("p31 too short for that in ink " + ink, inks.threads(ink, 11), -1);
        }
    }

    private static void p31Knots() {
        String line = "at 5 5;east 1;";
        C.due("p31 from end to end", Check.drawn(line + "knot 5 5;knot 6 5;").threads(0, 1), 2);
        C.due("p31 to and fro", Check.drawn(line + "knot 6 5;").threads(0, 2), 1);
        C.due("p31 too short to come back", Check.drawn(line + "knot 6 5;").threads(0, 1), -1);
        C.due("p31 a knot elsewhere", Check.drawn(line + "knot 0 0;").threads(0, 20), -1);
        C.due("p31 between two knots", Check.drawn("east 4;knot 0 0;knot 4 0;").threads(0, 4), 2);
        C.due("p31 too short between them", Check.drawn("east 4;knot 0 0;knot 4 0;").threads(0, 3), -1);
        C.due("p31 one knot in the middle", Check.drawn("east 4;knot 2 0;").threads(0, 4), 2);
        C.due("p31 by fours and a star", Check.drawn("at 5 5;knot 5 5;" + "east 1;west 1;north 1;south 1;west 1;east 1;south 1;north 1;"
            + "northeast 1;southwest 1;northwest 1;southeast 1;").threads(0, 5), 3);
        C.due("p31 the star in one", Check.drawn("at 5 5;knot 5 5;" + "east 1;west 1;north 1;south 1;west 1;east 1;south 1;north 1;"
            + "northeast 1;southwest 1;northwest 1;southeast 1;").threads(0, 12), 1);
    }
}
