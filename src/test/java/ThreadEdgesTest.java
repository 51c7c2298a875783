/** Edges that the terms of a THREAD and promises 14 to 22 name, sentence by sentence. */
public final class ThreadEdgesTest {
    private static final Check C = new Check();
    private static final int[] BY = {1, 13, 12, 11, -1, -13, -12, -11};

    private ThreadEdgesTest() {
    }

    public static void main(String[] args) {
        theyTakeTurns();
        noThread();
        leastOfCant();
        workedSoAlready();
        aCutThreadStays();
        p14Begin();
        p15Cut();
        p17EachWay();
        p18Unpick();
        p19Thread();
        p20Done();
        p21Bounds();
        p21EachSort();
        p21FirstThatCant();
        p22Perform();
        C.end();
    }

    /** "its first STITCH OVER or UNDER; then they take turns". */
    private static void theyTakeTurns() {
        for (int first = 0; first < 2; first++) {
            BothSides x = Check.drawn(Texts.ROWS);
            x.begin(0, 0, first == 1);
            String row = first(x);
            for (int k = 0; k < row.length(); k++) {
                int over = x.seen(true);
                C.due("the next by turns " + k, x.thread(1), (k + first) % 2);
                x.stitch(row.charAt(k) - '0');
                C.due("it was over by turns " + k, x.seen(true) - over, (k + first) % 2);
            }
            C.due("behind all of them", x.thread(1), first);
            C.due("sixty over", x.seen(true), 60);
        }
    }

    /** The FIRST WORKING, by few calls: done, told and taken out again. */
    private static String first(BothSides x) {
        StringBuilder row = new StringBuilder();
        int many = x.work();
        for (int k = 0; k < many; k++) {
            row.append(x.done(k));
        }
        x.unpick(many);
        return row.toString();
    }

    /** "1 there is no THREAD": never begun, cut, behind a DRAWING, behind an IMAGE without. */
    private static void noThread() {
        BothSides x = Check.drawn(Texts.SQUARE);
        noThread("never begun", x);
        x.image(0);
        x.begin(0, 0, true);
        C.due("one is there", x.may(0), 0);
        x.cut();
        noThread("cut", x);
        x.begin(0, 0, true);
        Check.draw(x, Texts.SQUARE);
        noThread("behind a drawing", x);
        x.begin(0, 0, true);
        x.restore(0);
        noThread("behind an image without", x);
        noThread("new", new BothSides());
    }

    private static void noThread(String when, BothSides x) {
        for (int way = 0; way < 8; way++) {
            C.due("1 " + when + ", may " + way, x.may(way), 1);
            C.due("1 " + when + ", stitch " + way, x.stitch(way), 1);
        }
        C.due(when + ": nothing is worked", x.seen(true) + x.seen(false), 0);
        for (String call : new String[] {"cut", "left", "ending", "work", "ways"}) {
            C.due(when + ": " + call, Reading.answer(x, call), Check.STATE);
        }
        C.due(when + ": unpick", Reading.answer(x, "unpick", 0), Check.STATE);
        C.due(when + ": thread", Reading.answer(x, "thread", 2), Check.STATE);
        C.due(when + ": done", Reading.answer(x, "done", 0), Check.STATE);
        C.due(when + ": sameAt", Reading.answer(x, "sameAt", 0), Check.STATE);
        C.due(when + ": working", Reading.answer(x, "working", -1), Check.STATE);
        C.due(when + ": barred", Reading.answer(x, "barred", 0), Check.STATE);
        C.due(when + ": unpicked", Reading.answer(x, "unpicked", false, 0), Check.STATE);
    }

    /** "by the least of these". */
    private static void leastOfCant() {
        BothSides x = Check.drawn("at 5 5;ink 1;east 1;ink 0;east 1;at 5 5;north 1;");
        C.due("1 ahead of 2", x.may(4), 1);
        x.begin(65, 1, true);
        Check.sew(x, "0");
        C.due("worked over in its ink", x.line(0, 3), 1);
        x.cut();
        C.due("1 ahead of 3", x.may(0), 1);
        x.begin(65, 0, true);
        C.due("2 ahead of 3: of another ink, and worked so", x.may(0), 2);
        C.due("2 no line", x.may(1), 2);
        C.due("0 it can", x.may(2), 0);
        Check.sew(x, "2");
        C.due("back it can, on the other face", x.may(6), 0);
        Check.sew(x, "6");
        C.due("3 both faces are worked", x.may(2), 3);
        BothSides corner = Check.drawn("east 1;at 11 11;west 1;");
        corner.begin(0, 0, true);
        for (int way = 1; way < 8; way++) {
            C.due("2 off the cloth, or bare, from 0 by " + way, corner.may(way), 2);
        }
        corner.begin(143, 0, true);
        for (int way = 0; way < 8; way++) {
            C.due("2 off the cloth, or bare, from 143 by " + way, corner.may(way), way == 4 ? 0 : 2);
        }
    }

    /** "3 that LINE is worked so (OVER, UNDER) already": from both of its HOLES, by this THREAD or a cut one. */
    private static void workedSoAlready() {
        for (int face = 0; face < 2; face++) {
            BothSides x = Check.drawn("at 5 5;northeast 1;");
            x.begin(65, 0, face == 1);
            Check.sew(x, "1");
            int[] holes = {65, 78};
            for (int k = 0; k < 2; k++) {
                x.begin(holes[k], 0, face == 1);
                C.due("3 on the same face from " + holes[k], x.may(k == 0 ? 1 : 5), 3);
                C.due("3 so it isn't done", x.stitch(k == 0 ? 1 : 5), 3);
                x.begin(holes[k], 0, face == 0);
                C.due("0 on the other face from " + holes[k], x.may(k == 0 ? 1 : 5), 0);
            }
            C.due("how it is worked", x.line(0, 3), face == 1 ? 1 : 2);
        }
    }

    /** "A THREAD that is cut stays as it is; then one begins anew." */
    private static void aCutThreadStays() {
        BothSides x = Check.drawn(Texts.SQUARE);
        x.begin(0, 0, true);
        Check.sew(x, "02");
        x.cut();
        C.due("over stays", x.line(0, 3), 1);
        C.due("under stays", x.line(1, 3), 2);
        x.begin(13, 0, true);
        C.due("anew: no stitches", x.thread(2), 0);
        C.due("anew: none of the old ones can be taken out", Reading.answer(x, "unpick", 1), Check.WRONG);
        Check.sew(x, "46");
        x.unpick(2);
        C.due("the old ones stay", x.seen(true) * 10 + x.seen(false), 11);
        C.due("as they were", x.line(0, 3) * 10 + x.line(1, 3), 12);
    }

    /** "A THREAD of an INK begins at a HOLE, OVER or UNDER (one that is there is cut)". */
    private static void p14Begin() {
        for (int hole : new int[] {0, 11, 132, 143}) {
            for (int ink = 0; ink < 4; ink += 3) {
                BothSides x = new BothSides();
                x.begin(hole, ink, ink == 0);
                C.due("p14 without a drawing, at", x.thread(0), hole);
                C.due("p14 began", x.thread(4), hole);
                C.due("p14 of", x.thread(3), ink);
                C.due("p14 over", x.thread(1), ink == 0 ? 1 : 0);
                C.due("p14 stitches", x.thread(2), 0);
                C.due("p14 nothing was cut", x.count(2), 0);
                x.begin(hole, ink, false);
                C.due("p14 one that is there is cut", x.count(2), 1);
                x.cut();
                x.begin(hole, ink, false);
                C.due("p14 one that isn't there is not", x.count(2), 2);
            }
        }
    }

    /** "how many STITCHES it had": 0, some, 120. */
    private static void p15Cut() {
        BothSides x = Check.drawn(Texts.ROWS);
        x.begin(0, 0, true);
        C.due("p15 none", x.cut(), 0);
        x.begin(0, 0, true);
        Check.sew(x, "000");
        x.unpick(1);
        C.due("p15 but those taken out", x.cut(), 2);
        C.due("p15 only once", Reading.answer(x, "cut"), Check.STATE);
        C.due("p15 two were cut", x.count(2), 2);
        Check.draw(x, Texts.ROWS);
        x.begin(0, 0, true);
        x.work();
        C.due("p15 all", x.cut(), 120);
        C.due("p15 since the drawing was told", x.count(2), 1);
    }

    /** By each WAY there, on one face, and back on the other one. */
    private static void p17EachWay() {
        for (int way = 0; way < 8; way++) {
            BothSides x = Check.drawn(Texts.STAR);
            x.begin(65, 0, true);
            C.due("p17 by " + way, x.stitch(way), 0);
            C.due("p17 to " + way, x.thread(0), 65 + BY[way]);
            C.due("p17 over", x.line(way, 3), 1);
            C.due("p17 no other line", x.seen(true) + x.seen(false), 1);
            C.due("p18 out again", x.unpick(1), 0);
            C.due("p18 back from " + way, x.thread(0), 65);
            C.due("p18 over again", x.thread(1), 1);
            C.due("p18 nothing is worked", x.seen(true) + x.seen(false), 0);
            Check.sew(x, "" + way + (way + 4) % 8);
            C.due("p17 back by " + way, x.thread(0), 65);
            C.due("p17 both faces", x.line(way, 3), 3);
            x.unpick(1);
            C.due("p18 there again by " + way, x.thread(0), 65 + BY[way]);
            C.due("p18 over alone", x.line(way, 3), 1);
        }
        BothSides all = Check.drawn(Texts.STAR);
        all.begin(65, 0, false);
        C.due("p17 all ways there and back", Check.sew(all, "0415263740516273"), 16);
        for (int n = 1; n <= 16; n++) {
            C.due("p18 one after another", all.unpick(1), 16 - n);
            C.due("p18 hole behind " + n, all.thread(0) == 65, n % 2 == 0);
        }
        C.due("p18 nothing is left of them", all.seen(true) + all.seen(false), 0);
    }

    /** "n is below 0 or above what it has": 0 and all are in. */
    private static void p18Unpick() {
        BothSides x = Check.drawn(Texts.SQUARE);
        x.begin(13, 0, false);
        C.due("p18 none of none", x.unpick(0), 0);
        C.due("p18 one of none", Reading.answer(x, "unpick", 1), Check.WRONG);
        Check.sew(x, "460");
        C.due("p18 four of three", Reading.answer(x, "unpick", 4), Check.WRONG);
        C.due("p18 less than none", Reading.answer(x, "unpick", -1), Check.WRONG);
        C.due("p18 none of three", x.unpick(0), 3);
        C.due("p18 they stay", x.thread(0), 1);
        C.due("p18 three of three", x.unpick(3), 0);
        C.due("p18 where it began", x.thread(0), 13);
        C.due("p18 its first as it was", x.thread(1), 0);
        C.due("p18 it is still there", x.may(4), 0);
        C.due("p18 nothing is worked", x.same(), true);
        C.due("p18 what was taken out can be worked again", Check.sew(x, "460"), 3);
    }

    private static void p19Thread() {
        BothSides x = Check.drawn("ink 3;" + Texts.SQUARE);
        x.begin(12, 3, false);
        int[][] due = {{12, 0, 0, 3, 12}, {0, 1, 1, 3, 12}, {1, 0, 2, 3, 12}, {0, 1, 3, 3, 12}};
        int[] ways = {6, 0, 4};
        for (int n = 0; n < 4; n++) {
            for (int what = 0; what < 5; what++) {
                C.due("p19 behind " + n + ", what " + what, x.thread(what), due[n][what]);
            }
            if (n < 3) {
                x.stitch(ways[n]);
            }
        }
        C.due("p19 what 5", Reading.answer(x, "thread", 5), Check.WRONG);
        C.due("p19 what -1", Reading.answer(x, "thread", -1), Check.WRONG);
    }

    /** "NONE: not so many": below 0, behind the last, behind one that was taken out, up to the 120th. */
    private static void p20Done() {
        BothSides x = Check.drawn(Texts.ROWS);
        x.begin(0, 0, true);
        C.due("p20 none yet", x.done(0), -1);
        String row = first(x);
        C.due("p20 none any more", x.done(0), -1);
        x.work();
        for (int k = 0; k < 120; k++) {
            C.due("p20 stitch " + k, x.done(k), row.charAt(k) - '0');
        }
        C.due("p20 not 121", x.done(120), -1);
        C.due("p20 below 0", x.done(-1), -1);
        x.unpick(1);
        C.due("p20 the 119th", x.done(118), row.charAt(118) - '0');
        C.due("p20 the 120th was taken out", x.done(119), -1);
    }

    private static void judged(String what, BothSides x, int tray, int place, int by, int hole, int left) {
        int[] due = {place, by, hole, left};
        for (int k = 0; k < 4; k++) {
            C.due("p21 " + what + ", what " + k, x.judge(tray, k), due[k]);
        }
        C.due("p22 " + what + ": perform", x.perform(tray), place == -1 ? x.thread(2) : place);
        C.due("p22 " + what + ": hole", x.thread(0), hole);
        C.due("p22 " + what + ": left", x.left(), left);
        x.unpick(x.thread(2));
    }

    /** Rows of 0 numbers, of 40, that can be up to the 39th and that can all be. */
    private static void p21Bounds() {
        BothSides x = Check.drawn("east 11;north 11;");
        x.begin(0, 0, true);
        long[] row = new long[40];
        for (int k = 0; k < 40; k++) {
            row[k] = k < 11 ? 0 : k < 22 ? 2 : k < 33 ? 6 : 4;
        }
        Check.lay(x, 0, 0, row);
        judged("forty that can be", x, 0, -1, 0, 4, 4);
        row[39] = 0;
        Check.lay(x, 1, 3, row);
        judged("the last of forty can't be", x, 1, 39, 3, 5, 5);
        row[39] = 8;
        Check.lay(x, 1, 2, row);
        judged("the last of forty is no way", x, 1, 39, 2, 5, 5);
        row[0] = 4;
        Check.lay(x, 1, 1, row);
        judged("the first of forty can't be", x, 1, 0, 2, 0, 44);
        Check.lay(x, 2, 0);
        judged("none", x, 2, -1, 0, 0, 44);
        Check.lay(x, 3, 3, 0);
        judged("one that can be", x, 3, -1, 0, 1, 43);
        Check.lay(x, 3, 3, 4);
        judged("one that can't be", x, 3, 0, 2, 0, 44);
        Check.lay(x, 3, 3, 0, 4, 0);
        judged("the third is worked so by the first", x, 3, 2, 3, 0, 42);
        x.tray(3, 1, 23);
        judged("a row of so many 0s", x, 3, 11, 2, 11, 33);
    }

    /** "another number: 2", in each sort; a number is what it was cut to. */
    private static void p21EachSort() {
        for (int sort = 0; sort < 4; sort++) {
            BothSides x = Check.drawn(Texts.STAR);
            x.begin(65, 0, true);
            for (long way = 0; way < 8; way++) {
                Check.lay(x, 0, sort, way);
                judged("sort " + sort + ", way " + way, x, 0, -1, 0, 65 + BY[(int) way], 15);
            }
            for (long other : new long[] {-1, 8, 127, -128, -8, 9}) {
                Check.lay(x, 0, sort, 0, other, 0);
                judged("sort " + sort + ", " + other, x, 0, 1, 2, 66, 15);
            }
            int bits = 8 << sort;
            for (int k = 0; sort < 3 && k < 8; k++) {
                Check.lay(x, 0, sort, (1L << bits) + k);
                judged("sort " + sort + ", cut to " + k, x, 0, -1, 0, 65 + BY[k], 15);
                Check.lay(x, 0, sort, (1L << bits - 1) + k);
                judged("sort " + sort + ", not cut to " + k, x, 0, 0, 2, 65, 16);
            }
        }
        BothSides x = Check.drawn(Texts.STAR);
        x.begin(65, 0, true);
        long[] others = {1L << 32, (1L << 32) + 1, 1L << 62, Long.MAX_VALUE, Long.MIN_VALUE, -(1L << 32), (1L << 16) + 2, (1L << 8) + 2};
        for (long other : others) {
            Check.lay(x, 0, 3, other);
            judged("64 bits, " + other, x, 0, 0, 2, 65, 16);
        }
    }

    /** "from where the THREAD is (nothing stays)", "the place of the first that CAN'T be". */
    private static void p21FirstThatCant() {
        BothSides x = Check.drawn(Texts.SQUARE + "ink 1;northeast 1;");
        x.begin(1, 0, false);
        Check.sew(x, "4");
        x.begin(1, 0, true);
        Check.sew(x, "2");
        Check.lay(x, 0, 0, 4, 6, 0, 9);
        C.due("p21 the first, not the second", x.judge(0, 0), 2);
        C.due("p21 worked so by a cut thread", x.judge(0, 1), 3);
        C.due("p21 where the thread would be", x.judge(0, 2), 0);
        C.due("p21 left then", x.judge(0, 3), 4);
        C.due("p21 the thread stays", x.thread(0) * 10 + x.thread(2), 131);
        C.due("p21 its way stays", x.done(0) * 10 + x.done(1), 19);
        C.due("p21 what is worked stays", x.seen(true) * 10 + x.seen(false), 11);
        Check.lay(x, 1, 0, 5);
        C.due("p21 of another ink", x.judge(1, 1), 2);
    }

    /** "They are done, till one CAN'T be: how many were." */
    private static void p22Perform() {
        BothSides x = Check.drawn(Texts.SQUARE);
        x.begin(0, 0, true);
        Check.lay(x, 0, 0, 0, 2, 4, 6);
        C.due("p22 all four", x.perform(0), 4);
        C.due("p22 all four again, on the same face", x.perform(0), 0);
        x.begin(0, 0, false);
        C.due("p22 all four on the other face", x.perform(0), 4);
        C.due("p22 all is worked", x.left(), 0);
        C.due("p22 none can be", x.perform(0), 0);
        C.due("p22 eight faces", x.seen(true) + x.seen(false), 8);
        x.tray(0, 0, 0);
        C.due("p22 of none", x.perform(0), 0);
    }
}
