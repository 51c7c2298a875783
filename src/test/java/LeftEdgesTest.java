/** Edges that the terms of what is LEFT and promises 23 to 31 name, sentence by sentence. */
public final class LeftEdgesTest {
    private static final Check C = new Check();
    private static final String TAILED = Texts.SQUARE + "at 1 1;east 1;";
    private static final String THREE = "east 1;northwest 1;south 1;";
    private static final String KITE = THREE + "at 1 0;east 1;";
    /** Two triangles that meet at HOLE 65; LINES 1 and 4 don't lead there. */
    private static final String BOW = "at 5 5;east 1;northwest 1;south 1;west 1;southeast 1;north 1;";

    private LeftEdgesTest() {
    }

    public static void main(String[] args) {
        p23Left();
        bar1SomethingLeft();
        bar1ByWhatHangsTogether();
        bar2FirstHole();
        bar2SecondHole();
        noBar();
        p25Ending();
        p26Working();
        p26LesserWay();
        p27Work();
        p28Ways();
        p29OneEnd();
        p29BothEnds();
        p29WithoutAnyStitch();
        p30Places();
        p31Lengths();
        p31SixLines();
        p31TwiceThrough();
        p31Knots();
        p31EachOnce();
        C.end();
    }

    // ---- left

    private static void p23Left() {
        BothSides x = Check.drawn(Texts.ROWS);
        x.begin(143, 0, true);
        C.due("p23 of sixty lines", x.left(), 120);
        x.begin(0, 1, true);
        C.due("p23 of an ink without lines", x.left(), 0);
        x.begin(0, 0, false);
        Check.sew(x, "0");
        C.due("p23 one stitch", x.left(), 119);
        x.unpick(1);
        C.due("p23 taken out", x.left(), 120);
        x.work();
        C.due("p23 all worked", x.left(), 0);
        BothSides y = Check.drawn("east 1;ink 2;east 2;");
        Check.work(y, true, 0, 1);
        y.begin(0, 0, true);
        C.due("p23 over or under of a line", y.left(), 1);
        y.begin(0, 2, true);
        C.due("p23 of its ink alone", y.left(), 3);
    }

    // ---- barred

    private static void barred(String why, BothSides x, int by, int where) {
        C.due("p24 " + why, x.barred(0), by);
        C.due("p24 where: " + why, x.barred(1), where);
        C.due("p25 ending: " + why, x.ending() == -1, by != 0);
        C.due("p26 how many: " + why, x.working(-1), by != 0 ? -1 : x.left());
        C.due("p26 the first: " + why, x.working(0) == -1, by != 0 || x.left() == 0);
        C.due("p28 ways: " + why, x.ways() == 0, by != 0);
    }

    /** "1 a LINE with something LEFT doesn't hang together with the HOLE where the THREAD is (the first such LINE)". */
    private static void bar1SomethingLeft() {
        for (int face = 0; face < 2; face++) {
            BothSides x = Check.drawn("at 3 3;east 1;at 0 0;east 1;");
            Check.work(x, face == 1, 0);
            x.begin(0, 0, true);
            barred("one face is left of it", x, 1, 0);
            Check.work(x, face == 0, 0);
            x.begin(0, 0, true);
            barred("nothing is left of it", x, 0, -1);
        }
        barred("the thread's hole has no lines", Check.begun("at 3 3;east 2;", 0, true), 1, 0);
        barred("the first such line, not the nearest", Check.begun("at 9 9;east 1;at 0 0;east 1;at 2 0;east 1;", 0, true), 1, 0);
        barred("the first such line, though one ahead of it hangs together",
            Check.begun("east 1;at 2 0;east 1;at 9 9;east 1;", 0, true), 1, 1);
        BothSides y = Check.drawn("at 9 9;east 1;at 0 0;east 1;at 2 0;east 1;");
        Check.work(y, true, 0);
        Check.work(y, false, 0);
        y.begin(0, 0, true);
        barred("the first with something left", y, 1, 2);
        BothSides rows = Check.drawn("at 11 11;west 1;at 0 0;times 4(east 11;west 11;north 1;);");
        rows.begin(0, 0, true);
        C.due("p24 far off behind many lines", rows.barred(0) * 100 + rows.barred(1), 100);
    }

    /** "by such LINES": LINES of which nothing is LEFT, or of another INK, lead no further; one face is enough. */
    private static void bar1ByWhatHangsTogether() {
        BothSides x = Check.drawn("east 3;");
        Check.work(x, true, 1);
        x.begin(0, 0, true);
        C.due("p24 one face leads on", x.barred(0), 2);
        Check.work(x, false, 1);
        x.begin(0, 0, true);
        barred("both faces are worked", x, 1, 2);
        x.begin(3, 0, true);
        barred("from its other end", x, 1, 0);
        x.begin(1, 0, true);
        barred("from between", x, 1, 2);
        BothSides other = Check.drawn("east 1;ink 1;east 1;ink 0;east 1;");
        other.begin(1, 0, true);
        barred("another ink leads no further", other, 1, 2);
        barred("crossing is no hanging together", Check.begun("northeast 1;at 1 0;northwest 1;", 0, true), 1, 1);
        barred("meeting at a hole is", Check.begun("northeast 1;southeast 1;", 0, true), 0, -1);
    }

    private static BothSides bow(boolean spokes, int hole, boolean over) {
        BothSides x = Check.drawn(BOW);
        Check.work(x, !spokes, 0, 2, 3, 5);
        Check.work(x, spokes, 1, 4);
        x.begin(hole, 0, over);
        return x;
    }

    /** "of those at which it isn't 0 the first, if it is neither 1 nor -1 there". */
    private static void bar2FirstHole() {
        BothSides x = Check.drawn("east 2;");
        Check.work(x, true, 0);
        Check.work(x, false, 1);
        x.begin(0, 0, true);
        barred("-2 at the first", x, 2, 0);
        x = Check.drawn("east 2;");
        Check.work(x, false, 0);
        Check.work(x, true, 1);
        x.begin(0, 0, false);
        barred("2 at the first", x, 2, 0);
        barred("3 at one hole alone", bow(true, 65, true), 2, 65);
        barred("-3 at one hole alone", bow(false, 65, false), 2, 65);
        barred("5 at one hole alone", bow(true, 65, false), 2, 65);
        barred("-5 at one hole alone", bow(false, 65, true), 2, 65);
        barred("4 at the first, -1 at the second", bow(true, 66, true), 2, 65);
        barred("-4 at the first, 1 at the second", bow(false, 77, false), 2, 65);
    }

    /** "else the second HOLE". */
    private static void bar2SecondHole() {
        barred("-1 at the first, 4 at the second", bow(true, 64, true), 2, 65);
        barred("1 at the first, 4 at the second", bow(true, 53, false), 2, 65);
        barred("1 at the first, -4 at the second", bow(false, 53, false), 2, 65);
        BothSides x = Check.drawn("east 2;");
        Check.work(x, true, 0);
        Check.work(x, false, 1);
        x.begin(1, 0, true);
        barred("-1, -1, 1", x, 2, 1);
        x.begin(1, 0, false);
        barred("-1, 1, 1", x, 2, 1);
        x.begin(2, 0, false);
        barred("-1, 0, 2", x, 2, 2);
        x = Check.drawn("at 9 11;east 2;");
        Check.work(x, true, 0);
        Check.work(x, false, 1);
        x.begin(143, 0, false);
        barred("-1, 0, 2 at the last hole of all", x, 2, 143);
        x = Check.drawn("east 2;at 9 9;east 1;");
        Check.work(x, true, 0);
        Check.work(x, false, 1);
        x.begin(0, 0, true);
        barred("1 ahead of 2", x, 1, 2);
    }

    /** "should be 0 at all HOLES but one, there 1 or -1". */
    private static void noBar() {
        BothSides x = Check.drawn("east 2;");
        Check.work(x, true, 0);
        Check.work(x, false, 1);
        x.begin(0, 0, false);
        barred("1 at the last", x, 0, -1);
        C.due("p25 it ends there", x.ending(), 2);
        x.begin(2, 0, true);
        barred("-1 at the first", x, 0, -1);
        C.due("p25 it ends there", x.ending(), 0);
        barred("-1 at the thread's hole", Check.begun(Texts.SQUARE, 13, true), 0, -1);
        barred("1 at the thread's hole", Check.begun(Texts.SQUARE, 13, false), 0, -1);
        for (int hole = 0; hole < 144; hole += 11) {
            barred("nothing left, at " + hole, Check.begun("", hole, hole % 2 == 0), 0, -1);
        }
        x = Check.drawn(Texts.ROWS);
        x.begin(0, 0, true);
        C.due("p24 sixty lines", x.barred(0), 0);
        x.work();
        barred("sixty lines, all worked", x, 0, -1);
    }

    // ---- what goes on

    private static void p25Ending() {
        for (int hole : new int[] {0, 143}) {
            C.due("p25 nothing left at " + hole, Check.begun("", hole, true).ending(), hole);
        }
        C.due("p25 at the last hole", Check.begun("at 10 11;east 1;", 143, false).ending(), 143);
        for (int hole : new int[] {0, 1, 12, 13}) {
            C.due("p25 where it is, as nothing is worked", Check.begun(Texts.SQUARE, hole, hole > 1).ending(), hole);
        }
        BothSides x = Check.begun("east 3;", 0, true);
        for (int n = 0; n < 6; n++) {
            C.due("p25 on the way " + n, x.ending(), 0);
            x.stitch(n < 3 ? 0 : 4);
        }
        C.due("p25 when it is there", x.ending(), 0);
        x.unpick(5);
        x.stitch(4);
        C.due("p25 barred", x.ending(), -1);
    }

    /** "(k NONE: how many). NONE: not so many, there is none." */
    private static void p26Working() {
        BothSides x = Check.begun(Texts.ROWS, 0, true);
        C.due("p26 how many", x.working(-1), 120);
        C.due("p26 the last", x.working(119) >= 0, true);
        C.due("p26 not 121", x.working(120), -1);
        C.due("p26 not below NONE", x.working(-2), -1);
        x.work();
        C.due("p26 nothing left: none", x.working(-1), 0);
        C.due("p26 nothing left: no first one", x.working(0), -1);
        BothSides one = Check.begun("east 1;", 0, true);
        C.due("p26 two", Check.working(one), "04");
        C.due("p26 not three", one.working(2), -1);
        one.stitch(0);
        C.due("p26 one", Check.working(one), "4");
        C.due("p26 not two", one.working(1), -1);
        BothSides none = Check.begun("east 1;at 9 9;east 1;", 0, true);
        for (int k = -2; k < 3; k++) {
            C.due("p26 there is none, " + k, none.working(k), -1);
        }
    }

    /** "the first row of WAYS (STITCH by STITCH the lesser WAY)": not the least where it would not go on by all. */
    private static void p26LesserWay() {
        C.due("p26 out and back, the lesser way first", Check.working(Check.begun(Texts.STAR, 65, false)), "0415263740516273");
        C.due("p26 from a ray's end", Check.working(Check.begun(Texts.STAR, 64, true)), "0041526375162734");
        C.due("p26 a tail first, for it is the lesser", Check.working(Check.begun(TAILED, 13, true)), "0440642602");
        BothSides tail = Check.begun("at 1 0;east 1;at 1 0;west 1;north 1;southeast 1;", 1, true);
        C.due("p26 a tail, then twice round", Check.working(tail), "04360360");
        BothSides x = Check.drawn("east 2;");
        Check.work(x, false, 0);
        x.begin(1, 0, true);
        C.due("p26 the lesser way first", Check.working(x), "044");
        x = Check.drawn("east 2;");
        Check.work(x, false, 1);
        x.begin(1, 0, true);
        C.due("p26 the greater way first, for the lesser has no way back", Check.working(x), "400");
        x = Check.begun("east 1;at 0 0;north 1;", 0, true);
        Check.sew(x, "0");
        C.due("p26 back at once", Check.working(x), "426");
    }

    private static void p27Work() {
        BothSides x = Check.begun(Texts.ROWS, 60, false);
        C.due("p27 as many as a thread can have", x.work(), 120);
        C.due("p27 they are its own", x.thread(2), 120);
        C.due("p27 nothing left: none", x.work(), 0);
        C.due("p27 they can be taken out", x.unpick(120), 0);
        C.due("p27 all again", x.work(), 120);
        C.due("p27 all lines on both faces", x.count(3), 60);
        BothSides y = Check.begun("east 2;", 0, true);
        y.stitch(0);
        y.stitch(4);
        C.due("p27 there is none", y.work(), -1);
        C.due("p27 nothing is done", y.thread(2), 2);
        y.unpick(1);
        C.due("p27 behind what there is", y.work(), 3);
        C.due("p27 all of them", y.thread(2), 4);
        C.due("p27 to the ending", y.thread(0), 0);
    }

    /** "(nothing LEFT: 1); SPENT: more than 16 are LEFT". */
    private static void p28Ways() {
        BothSides x = Check.begun(Texts.STAR, 65, true);
        C.due("p28 sixteen left", x.left(), 16);
        C.due("p28 in eight times seven and so on", x.ways(), 40320);
        BothSides y = Check.begun(Texts.STAR + "at 6 5;east 1;", 65, true);
        C.due("p28 eighteen left", y.ways(), -2);
        Check.sew(y, "4");
        C.due("p28 seventeen left", y.left(), 17);
        C.due("p28 are too many", y.ways(), -2);
        Check.sew(y, "0");
        C.due("p28 sixteen are not", y.left(), 16);
        C.due("p28 the ray of two goes out and back", y.ways(), 5040);
        y.unpick(1);
        C.due("p28 seventeen again", y.ways(), -2);
        BothSides far = Check.begun(Texts.STAR, 0, true);
        C.due("p28 sixteen, barred", far.ways(), 0);
        BothSides many = Check.begun(Texts.ROWS, 0, true);
        C.due("p28 a hundred and twenty", many.ways(), -2);
        many.work();
        C.due("p28 nothing left", many.ways(), 1);
        BothSides inks = Check.drawn("ink 1;" + Texts.STAR + "ink 0;at 0 0;east 1;");
        inks.begin(0, 0, true);
        C.due("p28 of its ink", inks.ways(), 1);
        inks.begin(65, 1, true);
        C.due("p28 sixteen of the other one", inks.ways(), 40320);
        C.due("p28 one left", begunBehind("east 1;", 0).ways(), 1);
        // two squares that meet at HOLE 65, of each LINE one face, by turns: either square first
        BothSides faces = Check.drawn("at 5 5;east 1;north 1;west 1;south 1;west 1;south 1;east 1;north 1;");
        Check.work(faces, false, 0, 2, 4, 6);
        Check.work(faces, true, 1, 3, 5, 7);
        faces.begin(65, 0, true);
        C.due("p28 no line has both faces left", faces.ways(), 2);
        faces.begin(65, 0, false);
        C.due("p28 nor from the other face", faces.ways(), 2);
    }

    private static BothSides begunBehind(String text, int line) {
        BothSides x = Check.drawn(text);
        Check.work(x, true, line);
        x.begin(x.line(line, 1), 0, false);
        return x;
    }

    // ---- unpicked

    /** Threads one after another: "0o24" begins at HOLE 0, OVER, and goes by 2, 4. */
    private static BothSides threads(String text, String told) {
        BothSides x = Check.drawn(text);
        for (String thread : told.split(" ")) {
            int face = Math.max(thread.indexOf('o'), thread.indexOf('u'));
            x.begin(Integer.parseInt(thread.substring(0, face)), 0, thread.charAt(face) == 'o');
            String ways = thread.substring(face + 1);
            C.due(text + told + " can be", Check.sew(x, ways), ways.length());
        }
        return x;
    }

    private static void unpicked(String text, String told, int end, int sum, int first) {
        BothSides x = threads(text, told);
        String what = "p29 " + text + " " + told + ", ";
        int stitches = x.thread(2);
        C.due(what + "how many", x.unpicked(false, 0), end);
        C.due(what + "none first", x.unpicked(false, 1), end == -1 ? -1 : 0);
        C.due(what + "how many last", x.unpicked(false, 2), end);
        C.due(what + "both ends", x.unpicked(true, 0), sum);
        C.due(what + "first ones", x.unpicked(true, 1), first);
        C.due(what + "last ones", x.unpicked(true, 2), sum == -1 ? -1 : sum - first);
        C.due(what + "nothing is taken out", x.thread(2), stitches);
        if (end >= 0) {
            x.unpick(end);
            C.due(what + "it ends well then", x.barred(0), 0);
            C.due(what + "none more then", x.unpicked(false, 0) + x.unpicked(true, 0), 0);
        }
    }

    /** "the fewest last STITCHES of the THREAD (0, too) to be taken out so that it ENDS WELL". */
    private static void p29OneEnd() {
        unpicked("east 2;", "0o", 0, 0, 0);
        unpicked("east 2;", "2o4400", 0, 0, 0);
        unpicked("east 3;", "0u00044", 0, 0, 0);
        unpicked("east 2;", "1o0 1u0", 1, 1, 0);
        unpicked("east 3;", "3u4 2o40", 1, 1, 0);
        unpicked("east 3;", "2u4 1o00", 2, 2, 0);
        unpicked("east 3;", "3u4 2o400", 2, 2, 0);
        unpicked("east 3;", "2u4 1o004", 3, 3, 0);
        unpicked(KITE, "0o03 0u0362", 3, 3, 0);
        unpicked(TAILED, "1u2 0o26 1o2400", 4, 4, 0);
        unpicked(TAILED, "12u04 1o4 1u26426", 4, 4, 0);
        unpicked(TAILED, "0u26 1o2 1u24004", 5, 5, 0);
    }

    /** "at BOTH ENDS: of i first and j last ones the least i and j together, of like ones the least i". */
    private static void p29BothEnds() {
        // 1 together: by the last alone, by either, by the first alone
        unpicked("east 2;", "0u04", 1, 1, 0);
        unpicked(KITE, "1o36 1u403", 1, 1, 0);
        unpicked("east 2;", "1o0 0o04", -1, 1, 1);
        unpicked("east 3;", "1o044", 2, 1, 1);
        unpicked("east 3;", "2u4004", 3, 1, 1);
        unpicked(TAILED, "1o26 12o04604", 4, 1, 1);
        // 2 together: by 0 or 2 first ones, by 1, by 1 or 2, by 2
        unpicked(TAILED, "0u04 13u0 13o406", 2, 2, 0);
        unpicked("east 3;", "3u4400", 2, 2, 0);
        unpicked(KITE, "0u00 12u600", -1, 2, 1);
        unpicked(TAILED, "12u04 1o2640", 3, 2, 1);
        unpicked(KITE, "12u60 2o43603", -1, 2, 1);
        unpicked("east 3;", "1u4 3o440", -1, 2, 2);
        unpicked(TAILED, "0o26 14o4 13u6240", 3, 2, 2);
        // 3 and 4 together
        unpicked(TAILED, "1o24 0u2064", -1, 3, 1);
        unpicked(TAILED, "14o4 12u62 12o0624", -1, 3, 1);
        unpicked(KITE, "0o00 1u3600", -1, 3, 2);
        unpicked(TAILED, "13o46 0o2 13u62044", 4, 3, 2);
        unpicked("east 3;", "0u0 2u0440", -1, 3, 3);
        unpicked(TAILED, "1o24 1u24604", 4, 4, 0);
        unpicked(TAILED, "1u24 0u02462", -1, 4, 1);
        unpicked(KITE, "2o44 12u73600", -1, 4, 3);
        unpicked(Texts.SQUARE, "1u2 0o04204", -1, 4, 4);
    }

    /** "None if not even without any STITCH (with BOTH ENDS: where it began, the first STITCH as it was)". */
    private static void p29WithoutAnyStitch() {
        unpicked("east 2;", "1u0 2u", -1, -1, -1);
        unpicked("east 3;", "2u0 0o0", -1, -1, -1);
        unpicked("east 3;", "2u4 1u40", -1, -1, -1);
        // all of them, where it began: never the first ones alone
        unpicked("east 2;", "1o0 1u0", 1, 1, 0);
        unpicked("east 3;", "2u4 1o00", 2, 2, 0);
        // from where the last ones would leave it all could be gone, but it stands where it began
        unpicked("east 3;", "3u4 1u0", -1, -1, -1);
        unpicked("east 2;", "1u0 0u00", -1, -1, -1);
        unpicked("east 3;", "1u4 3o44", -1, -1, -1);
        unpicked("east 3;", "2u4 0u000", -1, -1, -1);
        unpicked("east 3;", "0o0 2o044", -1, -1, -1);
        unpicked(Texts.SQUARE, "0o2 1u4024", -1, -1, -1);
        unpicked(Texts.SQUARE, "1o2 0o20460", -1, -1, -1);
        BothSides all = Check.begun(Texts.ROWS, 0, true);
        all.work();
        C.due("p29 of a hundred and twenty none", all.unpicked(false, 0) + all.unpicked(true, 0), 0);
        BothSides row = Check.drawn("at 0 5;east 11;at 5 9;east 1;");
        row.begin(60, 0, true);
        C.due("p29 there and back", Check.sew(row, "0000000000044444444444"), 22);
        C.due("p29 not even without twenty-two", row.unpicked(false, 0), -1);
        C.due("p29 nor at both ends", row.unpicked(true, 0), -1);
        BothSides far = Check.drawn("at 0 5;east 11;");
        Check.work(far, true, 10);
        far.begin(60, 0, true);
        C.due("p29 up to where it is worked so", Check.sew(far, "00000000000"), 10);
        C.due("p29 what bars it is another thread's", far.unpicked(true, 0), -1);
    }

    // ---- places

    /** "From how many HOLES, of 144, and OVER, UNDER (each by itself)", "as it is worked now". */
    private static void p30Places() {
        for (int ink = 0; ink < 4; ink++) {
            C.due("p30 nothing left of ink " + ink, new BothSides().places(ink), 288);
            C.due("p30 nor of those without lines", Check.drawn("ink " + ink + ";east 1;").places((ink + 1) % 4), 288);
        }
        C.due("p30 two holes, each over and under", Check.drawn("at 10 11;east 1;").places(0), 4);
        C.due("p30 as many holes as sixty lines have", Check.drawn(Texts.ROWS).places(0), 122);
        C.due("p30 two parts", Check.drawn("east 1;at 9 9;east 1;").places(0), 0);
        BothSides x = Check.drawn("east 1;");
        Check.work(x, true, 0);
        C.due("p30 under alone, from two holes", x.places(0), 2);
        Check.work(x, false, 0);
        C.due("p30 all is worked", x.places(0), 288);
        BothSides y = Check.drawn("east 2;");
        Check.work(y, true, 0);
        Check.work(y, false, 1);
        C.due("p30 under first from one end, over first from the other", y.places(0), 2);
        BothSides z = Check.drawn("east 2;");
        Check.work(z, true, 0, 1);
        C.due("p30 under twice can't be", z.places(0), 0);
        C.due("p30 a bow that can't be", bow(true, 0, true).places(0), 0);
        BothSides rows = Check.begun(Texts.ROWS, 0, true);
        rows.work();
        C.due("p30 sixty lines, all worked", rows.places(0), 288);
        rows.unpick(1);
        C.due("p30 one left: from its two holes", rows.places(0), 2);
        C.due("p30 the thread stays", rows.thread(2), 119);
    }

    // ---- the fewest threads

    /** "a length L (1 to 20 STITCHES)", "each of L STITCHES at most". */
    private static void p31Lengths() {
        BothSides line = Check.drawn("east 1;");
        int[][] due = {{2, 1, 1, 1}, {4, 2, 2, 1}, {6, 3, 2, 2}, {8, 4, 3, 2}, {10, 5, 4, 3}, {12, 6, 4, 3}};
        for (int many = 1; many <= 6; many++) {
            BothSides row = Check.drawn("east " + many + ";");
            for (int length = 1; length <= 4; length++) {
                C.due("p31 " + many + " in a row by " + length, row.threads(0, length), due[many - 1][length - 1]);
            }
            C.due("p31 " + many + " in a row by all", row.threads(0, 2 * many), 1);
            C.due("p31 " + many + " in a row by all but one", row.threads(0, Math.max(1, 2 * many - 1)), 2);
            C.due("p31 " + many + " in a row by 20", row.threads(0, 20), 1);
        }
        C.due("p31 length 1 is the least", line.threads(0, 1), 2);
        C.due("p31 length 0", Reading.answer(line, "threads", 0, 0), Check.WRONG);
        C.due("p31 length 20 is the most", line.threads(0, 20), 1);
        C.due("p31 length 21", Reading.answer(line, "threads", 0, 21), Check.WRONG);
        C.due("p31 length 21, no lines", Reading.answer(line, "threads", 3, 21), Check.WRONG);
        C.due("p31 ink 4", Reading.answer(line, "threads", 4, 1), Check.WRONG);
        C.due("p31 ink NONE", Reading.answer(line, "threads", -1, 1), Check.WRONG);
        for (int length = 1; length <= 20; length++) {
            C.due("p31 no lines by " + length, line.threads(2, length), 0);
        }
    }

    /** "SPENT: more than 6 LINES", of the INK. */
    private static void p31SixLines() {
        BothSides six = Check.drawn("east 6;ink 1;" + "west 6;north 1;east 7;");
        C.due("p31 six", six.threads(0, 12), 1);
        C.due("p31 eight of the other ink", six.threads(1, 12), -2);
        C.due("p31 too many, of any length", six.threads(1, 1), -2);
        C.due("p31 none of another one", six.threads(2, 1), 0);
        C.due("p31 too many, though it can't be", Check.drawn("east 7;knot 9 9;").threads(0, 1), -2);
        C.due("p31 six, it can't be", Check.drawn("east 6;knot 9 9;").threads(0, 1), -1);
        C.due("p31 sixty", Check.drawn(Texts.ROWS).threads(0, 20), -2);
        BothSides worked = Check.drawn("east 2;");
        worked.begin(0, 0, true);
        for (int n = 0; n <= 4; n++) {
            C.due("p31 as if nothing were worked, behind " + n, worked.threads(0, 2), 2);
            C.due("p31 as if nothing were worked, behind " + n, worked.threads(0, 4), 1);
            worked.stitch(n < 2 ? 0 : 4);
        }
    }

    /** A THREAD that comes twice through the HOLE from which the first LINE was drawn, on another face each time. */
    private static void p31TwiceThrough() {
        String ways = "at 5 5;east 1;northwest 1;south 1;west 1;at 5 5;south 1;";
        BothSides x = Check.drawn(ways + "knot 4 5;knot 5 4;");
        C.due("p31 once in, round and out on each face", x.threads(0, 5), 2);
        C.due("p31 too short to go round", x.threads(0, 4), -1);
        C.due("p31 not yet all in one", x.threads(0, 9), 2);
        C.due("p31 all in one", x.threads(0, 10), 1);
        C.due("p31 no knots, all in one", Check.drawn(ways).threads(0, 10), 1);
        C.due("p31 no knots, by three", Check.drawn(ways).threads(0, 3), 4);
        C.due("p31 no knots, by one", Check.drawn(ways).threads(0, 1), 10);
    }

    /** "that begin and end at KNOTS (at any HOLES, if there are no KNOTS)". */
    private static void p31Knots() {
        String row = "at 4 4;east 2;";
        C.due("p31 no knots", Check.drawn(row).threads(0, 1), 4);
        C.due("p31 a knot at each hole", Check.drawn(row + "knot 4 4;knot 5 4;knot 6 4;").threads(0, 1), 4);
        C.due("p31 knots at both ends", Check.drawn(row + "knot 4 4;knot 6 4;").threads(0, 1), -1);
        C.due("p31 knots at both ends, by two", Check.drawn(row + "knot 4 4;knot 6 4;").threads(0, 2), 2);
        C.due("p31 knots at both ends, by four", Check.drawn(row + "knot 4 4;knot 6 4;").threads(0, 4), 1);
        C.due("p31 a knot at one end, by three", Check.drawn(row + "knot 4 4;").threads(0, 3), -1);
        C.due("p31 a knot at one end, by four", Check.drawn(row + "knot 4 4;").threads(0, 4), 1);
        C.due("p31 a knot between, by two", Check.drawn(row + "knot 5 4;").threads(0, 2), 2);
        C.due("p31 a knot between, by one", Check.drawn(row + "knot 5 4;").threads(0, 1), -1);
        C.due("p31 a knot elsewhere", Check.drawn(row + "knot 0 0;").threads(0, 20), -1);
        C.due("p31 a knot elsewhere, no lines", Check.drawn(row + "knot 0 0;").threads(1, 20), 0);
        C.due("p31 a part without a knot", Check.drawn(row + "at 9 9;east 1;knot 4 4;").threads(0, 20), -1);
        C.due("p31 each part has one", Check.drawn(row + "at 9 9;east 1;knot 4 4;knot 9 9;").threads(0, 20), 2);
        C.due("p31 knots of one ink's lines serve another's", Check.drawn("east 1;knot 1 0;ink 1;east 1;").threads(1, 2), 1);
        C.due("p31 the corners of the cloth", Check.drawn("at 10 11;east 1;knot 11 11;").threads(0, 2), 1);
    }

    /** "each LINE of that INK is worked on both faces, each once": no THREAD goes again where one went. */
    private static void p31EachOnce() {
        BothSides x = Check.drawn("at 6 4;knot 6 4;north 1;east 1;west 2;");
        C.due("p31 both by one thread", x.threads(0, 6), 1);
        C.due("p31 one thread can't be so long", x.threads(0, 5), -1);
        C.due("p31 two would go along the first line twice", x.threads(0, 4), -1);
        C.due("p31 no knots, two threads", Check.drawn("at 6 4;north 1;east 1;west 2;").threads(0, 4), 2);
    }
}
