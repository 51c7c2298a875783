import java.util.NoSuchElementException;

/** Promises 14 to 22: the thread, and told stitches. */
public final class ThreadTest {
    private static final Check C = new Check();
    private static final Class<NoSuchElementException> NO_SUCH = NoSuchElementException.class;
    private static final Class<IllegalArgumentException> WRONG = IllegalArgumentException.class;
    private static final Class<IllegalStateException> STATE = IllegalStateException.class;
    private static final String SQUARE = "east 1;north 1;west 1;south 1;";

    private ThreadTest() {
    }

    public static void main(String[] args) {
        p14Begin();
        p15Cut();
        p16May();
        p17Stitch();
        p18Unpick();
        p19Thread();
        p20Done();
        p21Judge();
        p21JudgeThrows();
        p22Perform();
        C.end();
    }

    private static long begun(BothSides x, int hole, int ink, boolean over) {
        x.begin(hole, ink, over);
        return x.count(2);
    }

    private static void p14Begin() {
        BothSides x = Check.drawn(SQUARE);
        C.due("p14 the first cuts nothing", begun(x, 0, 0, true), 0);
        C.due("p14 over", x.thread(1), 1);
        Check.sew(x, "02");
        C.throwing("p14 hole", NO_SUCH, () -> begun(x, 144, 0, true));
        C.throwing("p14 hole", NO_SUCH, () -> begun(x, -1, 0, true));
        C.throwing("p14 hole ahead of ink", NO_SUCH, () -> begun(x, -1, 4, true));
        C.throwing("p14 ink", WRONG, () -> begun(x, 0, 4, true));
        C.throwing("p14 ink", WRONG, () -> begun(x, 0, -1, true));
        C.due("p14 throws change nothing", x.thread(2), 2);
        C.due("p14 nor cut", x.count(2), 0);
        C.due("p14 one that is there is cut", begun(x, 13, 3, false), 1);
        C.due("p14 under", x.thread(1), 0);
        C.due("p14 no stitches", x.thread(2), 0);
        C.due("p14 the hole", x.thread(0), 13);
        C.due("p14 the ink", x.thread(3), 3);
        C.due("p14 what was worked stays over", x.line(0, 3), 1);
        C.due("p14 what was worked stays under", x.line(1, 3), 2);
        C.due("p14 without stitches, too", begun(x, 143, 0, true), 2);
        C.due("p14 the last hole", x.thread(4), 143);
    }

    private static void p15Cut() {
        BothSides x = Check.drawn(SQUARE);
        C.throwing("p15 no thread", STATE, x::cut);
        x.begin(0, 0, true);
        Check.sew(x, "024");
        C.due("p15 stitches", x.cut(), 3);
        C.due("p15 counted", x.count(2), 1);
        C.throwing("p15 no thread any more", STATE, x::cut);
        C.throwing("p15 nor anything of it", STATE, () -> x.thread(0));
        C.due("p15 worked as it was", x.line(2, 3), 1);
        C.due("p15 begins anew", begun(x, 0, 0, true), 1);
        C.due("p15 no stitch of the old one", x.cut(), 0);
        C.due("p15 counted too", x.count(2), 2);
        Check.draw(x, SQUARE);
        C.due("p15 a new drawing", x.count(2), 0);
    }

    private static void p16May() {
        BothSides x = Check.drawn("at 5 5;east 1;at 5 5;ink 1;north 1;");
        C.due("p16 no thread", x.may(0), 1);
        C.throwing("p16 way ahead of thread", NO_SUCH, () -> x.may(8));
        x.begin(65, 0, true);
        C.due("p16 can", x.may(0), 0);
        C.due("p16 no line", x.may(1), 2);
        C.due("p16 of another ink", x.may(2), 2);
        C.due("p16 it stays", x.thread(2), 0);
        x.begin(65, 0, true);
        Check.sew(x, "0");
        C.due("p16 back under", x.may(4), 0);
        x.begin(65, 0, true);
        C.due("p16 over already", x.may(0), 3);
        x.begin(66, 0, true);
        C.due("p16 over already from its other end", x.may(4), 3);
        x.begin(65, 0, false);
        C.due("p16 under not yet", x.may(0), 0);
        x.begin(0, 0, true);
        C.due("p16 off the cloth", x.may(4), 2);
        C.throwing("p16 way", NO_SUCH, () -> x.may(-1));
        C.throwing("p16 way", NO_SUCH, () -> x.may(8));
    }

    private static void p17Stitch() {
        BothSides x = Check.drawn("at 5 5;east 1;at 5 5;ink 1;north 1;");
        C.due("p17 no thread", x.stitch(0), 1);
        x.begin(65, 0, false);
        C.due("p17 no line", x.stitch(7), 2);
        C.due("p17 other ink", x.stitch(2), 2);
        C.due("p17 nothing happens", x.thread(0), 65);
        C.due("p17 can", x.stitch(0), 0);
        C.due("p17 under first", x.line(0, 3), 2);
        C.due("p17 there", x.thread(0), 66);
        C.due("p17 back", x.stitch(4), 0);
        C.due("p17 then over", x.line(0, 3), 3);
        C.due("p17 worked", x.stitch(0), 3);
        C.due("p17 two stitches", x.thread(2), 2);
        C.throwing("p17 way", NO_SUCH, () -> x.stitch(8));
        C.throwing("p17 way", NO_SUCH, () -> x.stitch(-1));
        BothSides all = Check.drawn("times 5(east 11;west 11;north 1;);");
        all.begin(0, 0, true);
        String row = Check.working(all);
        C.due("p17 a hundred and twenty", Check.sew(all, row), 120);
        C.due("p17 all are worked", all.count(3), 60);
        C.due("p17 so many stitches", all.thread(2), 120);
        C.due("p17 no more", all.stitch(0), 3);
        C.due("p17 all out again", all.unpick(120), 0);
        C.due("p17 nothing worked", all.seen(true) + all.seen(false), 0);
    }

    private static void p18Unpick() {
        BothSides x = Check.drawn(SQUARE);
        C.throwing("p18 no thread", STATE, () -> x.unpick(0));
        C.throwing("p18 no thread ahead of how many", STATE, () -> x.unpick(-1));
        x.begin(0, 0, true);
        C.due("p18 of none", x.unpick(0), 0);
        C.throwing("p18 above", WRONG, () -> x.unpick(1));
        C.due("p18 five", Check.sew(x, "04206"), 5);
        C.throwing("p18 below 0", WRONG, () -> x.unpick(-1));
        C.throwing("p18 above", WRONG, () -> x.unpick(6));
        C.throwing("p18 far above", WRONG, () -> x.unpick(Integer.MAX_VALUE));
        C.due("p18 nothing changed", x.thread(2), 5);
        C.due("p18 the last is over", x.line(1, 3), 1);
        C.due("p18 one", x.unpick(1), 4);
        C.due("p18 it is out", x.line(1, 3), 0);
        C.due("p18 back there", x.thread(0), 13);
        C.due("p18 over again", x.thread(1), 1);
        C.due("p18 two", x.unpick(2), 2);
        C.due("p18 back at 0", x.thread(0), 0);
        C.due("p18 over yet", x.thread(1), 1);
        C.due("p18 the last of them", x.line(2, 3), 0);
        C.due("p18 the first of them", x.line(3, 3), 0);
        C.due("p18 those ahead stay", x.line(0, 3), 3);
        C.due("p18 done no more", x.done(2), -1);
        C.due("p18 an under one", x.unpick(1), 1);
        C.due("p18 the over one stays", x.line(0, 3), 1);
        C.due("p18 under then", x.thread(1), 0);
        C.due("p18 all", x.unpick(1), 0);
        C.due("p18 where it began", x.thread(0), 0);
        x.begin(1, 0, false);
        C.throwing("p18 not of a cut one", WRONG, () -> x.unpick(1));
    }

    private static void p19Thread() {
        BothSides x = Check.drawn("ink 2;" + SQUARE);
        C.throwing("p19 no thread", STATE, () -> x.thread(0));
        C.throwing("p19 no thread ahead of what", STATE, () -> x.thread(5));
        x.begin(12, 2, false);
        Check.sew(x, "061");
        int[] due = {1, 0, 2, 2, 12};
        for (int what = 0; what < 5; what++) {
            C.due("p19 what " + what, x.thread(what), due[what]);
        }
        Check.sew(x, "4");
        due = new int[] {0, 1, 3, 2, 12};
        for (int what = 0; what < 5; what++) {
            C.due("p19 then " + what, x.thread(what), due[what]);
        }
        C.throwing("p19 what", WRONG, () -> x.thread(5));
        C.throwing("p19 what", WRONG, () -> x.thread(-1));
    }

    private static void p20Done() {
        BothSides x = Check.drawn(SQUARE);
        C.throwing("p20 no thread", STATE, () -> x.done(0));
        x.begin(0, 0, true);
        C.due("p20 none", x.done(0), -1);
        Check.sew(x, "0246");
        int[] due = {0, 2, 4, 6, -1};
        for (int k = 0; k < 5; k++) {
            C.due("p20 stitch " + k, x.done(k), due[k]);
        }
        C.due("p20 below 0", x.done(-1), -1);
        C.due("p20 far above", x.done(Integer.MAX_VALUE), -1);
        x.begin(0, 0, true);
        C.due("p20 not of a cut one", x.done(0), -1);
    }

    private static void judged(String what, BothSides x, int tray, int... due) {
        for (int k = 0; k < 4; k++) {
            C.due("p21 " + what + ", " + k, x.judge(tray, k), due[k]);
        }
    }

    private static void p21Judge() {
        BothSides x = Check.drawn(SQUARE);
        x.begin(0, 0, true);
        Check.lay(x, 0, 0, 0, 2, 4, 6);
        judged("all can", x, 0, -1, 0, 0, 4);
        Check.lay(x, 1, 3, 0, 2, 3, 6);
        judged("no line", x, 1, 2, 2, 13, 6);
        Check.lay(x, 2, 2, 0, 4, 0, 2);
        judged("worked", x, 2, 2, 3, 0, 6);
        Check.lay(x, 3, 1);
        judged("no numbers", x, 3, -1, 0, 0, 8);
        Check.lay(x, 3, 1, 0, 8, 0);
        judged("no such way", x, 3, 1, 2, 1, 7);
        Check.lay(x, 3, 1, 0, -1, 0);
        judged("below the ways", x, 3, 1, 2, 1, 7);
        Check.lay(x, 3, 3, 0, 1L << 32, 0);
        judged("far above the ways", x, 3, 1, 2, 1, 7);
        Check.lay(x, 3, 3, Long.MIN_VALUE + 2);
        judged("far below the ways", x, 3, 0, 2, 0, 8);
        Check.lay(x, 3, 0, 258);
        judged("cut to a way", x, 3, -1, 0, 12, 7);
        C.due("p21 nothing stays", x.left(), 8);
        C.due("p21 nothing is worked", x.seen(true) + x.seen(false), 0);
        C.due("p21 no stitch", x.thread(2), 0);
        Check.sew(x, "02");
        Check.lay(x, 0, 0, 4, 6, 2);
        judged("from where it is", x, 0, -1, 0, 12, 3);
        Check.lay(x, 0, 0, 4, 6, 0, 2);
        judged("worked by what it tells and what was", x, 0, 2, 3, 0, 4);
        C.due("p21 the hole stays", x.thread(0), 13);
        C.due("p21 the way stays", x.done(2), -1);
        long[] rounds = new long[40];
        for (int k = 0; k < 40; k++) {
            rounds[k] = k % 2 == 0 ? 4 : 0;
        }
        Check.lay(x, 1, 0, rounds);
        judged("forty of them", x, 1, 2, 3, 13, 4);
    }

    private static void p21JudgeThrows() {
        BothSides x = Check.drawn(SQUARE);
        x.tray(0, 0, 1);
        C.throwing("p21 tray", NO_SUCH, () -> x.judge(4, 0));
        C.throwing("p21 tray ahead of thread and what", NO_SUCH, () -> x.judge(-1, 9));
        C.throwing("p21 no thread", STATE, () -> x.judge(0, 0));
        C.throwing("p21 no thread ahead of what", STATE, () -> x.judge(0, 4));
        x.begin(0, 0, true);
        C.throwing("p21 missing", STATE, () -> x.judge(1, 0));
        C.throwing("p21 missing ahead of what", STATE, () -> x.judge(1, 4));
        C.throwing("p21 what", WRONG, () -> x.judge(0, 4));
        C.throwing("p21 what", WRONG, () -> x.judge(0, -1));
        C.due("p21 what can be", x.judge(0, 0), -1);
    }

    private static void p22Perform() {
        BothSides x = Check.drawn(SQUARE);
        x.tray(0, 0, 1);
        C.throwing("p22 tray", NO_SUCH, () -> x.perform(4));
        C.throwing("p22 tray ahead of thread", NO_SUCH, () -> x.perform(-1));
        C.throwing("p22 no thread", STATE, () -> x.perform(0));
        x.begin(0, 0, true);
        C.throwing("p22 missing", STATE, () -> x.perform(3));
        Check.lay(x, 1, 0, 0, 2, 3, 4);
        C.due("p22 till one can't be", x.perform(1), 2);
        C.due("p22 they are done", x.thread(2), 2);
        C.due("p22 there", x.thread(0), 13);
        C.due("p22 nothing more can", x.perform(1), 0);
        Check.lay(x, 1, 2, 4, 6, 2, 300);
        C.due("p22 till no way", x.perform(1), 3);
        C.due("p22 worked", x.line(3, 3), 3);
        C.due("p22 the way", x.done(4), 2);
        Check.lay(x, 2, 3, 0, 6, 4);
        C.due("p22 all", x.perform(2), 3);
        C.due("p22 nothing left", x.left(), 0);
        Check.lay(x, 2, 3);
        C.due("p22 of none", x.perform(2), 0);
    }
}
