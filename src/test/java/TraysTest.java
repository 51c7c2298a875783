import java.util.NoSuchElementException;

/** Promises 36 to 40: trays, images, counts. */
public final class TraysTest {
    private static final Check C = new Check();
    private static final Class<NoSuchElementException> NO_SUCH = NoSuchElementException.class;
    private static final Class<IllegalArgumentException> WRONG = IllegalArgumentException.class;
    private static final Class<IllegalStateException> STATE = IllegalStateException.class;
    private static final Class<IndexOutOfBoundsException> OUTSIDE = IndexOutOfBoundsException.class;

    private TraysTest() {
    }

    public static void main(String[] args) {
        p36Tray();
        p37Write();
        p38And39Images();
        p39RestoreThrows();
        p40Count();
        C.end();
    }

    private static long tray(BothSides x, int tray, int sort, int many) {
        x.tray(tray, sort, many);
        return 0;
    }

    private static long image(BothSides x, int i) {
        x.image(i);
        return 0;
    }

    private static long restore(BothSides x, int i) {
        x.restore(i);
        return 0;
    }

    private static void p36Tray() {
        BothSides x = new BothSides();
        C.throwing("p36 tray", NO_SUCH, () -> tray(x, 4, 0, 1));
        C.throwing("p36 tray", NO_SUCH, () -> tray(x, -1, 0, 1));
        C.throwing("p36 tray ahead of sort", NO_SUCH, () -> tray(x, 4, 4, 41));
        C.throwing("p36 sort", WRONG, () -> tray(x, 0, 4, 1));
        C.throwing("p36 sort", WRONG, () -> tray(x, 0, -1, 1));
        C.throwing("p36 many", WRONG, () -> tray(x, 0, 0, 41));
        C.throwing("p36 many", WRONG, () -> tray(x, 0, 0, -1));
        C.throwing("p36 throws change nothing", STATE, () -> x.write(0, 0, 0));
        x.tray(3, 3, 40);
        C.due("p36 the last place", x.write(3, 39, 5), 5);
        x.tray(3, 0, 0);
        C.throwing("p36 no places", OUTSIDE, () -> x.write(3, 0, 0));
        C.throwing("p36 the others are missing", STATE, () -> x.write(2, 0, 0));
        Check.draw(x, "east 1;");
        x.begin(0, 0, true);
        x.tray(1, 1, 2);
        C.due("p36 a row of 0s", x.judge(1, 0), 1);
        x.write(1, 0, 7);
        C.due("p36 a 7", x.judge(1, 0), 0);
        C.throwing("p36 wrong", WRONG, () -> tray(x, 1, 1, 41));
        C.due("p36 it stays", x.judge(1, 0), 0);
        x.tray(1, 1, 1);
        C.due("p36 0s anew", x.judge(1, 0), -1);
    }

    private static void p37Write() {
        BothSides x = new BothSides();
        C.throwing("p37 tray", NO_SUCH, () -> x.write(4, 0, 0));
        C.throwing("p37 tray", NO_SUCH, () -> x.write(-1, -1, 0));
        C.throwing("p37 missing", STATE, () -> x.write(0, 0, 0));
        C.throwing("p37 missing ahead of place", STATE, () -> x.write(0, -1, 0));
        for (int sort = 0; sort < 4; sort++) {
            x.tray(sort, sort, 3);
            int tray = sort;
            C.throwing("p37 place", OUTSIDE, () -> x.write(tray, 3, 0));
            C.throwing("p37 place", OUTSIDE, () -> x.write(tray, -1, 0));
            C.throwing("p37 place", OUTSIDE, () -> x.write(tray, Integer.MAX_VALUE, 0));
            C.due("p37 small", x.write(sort, 2, 100), 100);
            C.due("p37 below 0", x.write(sort, 0, -100), -100);
        }
        long v = 0x123456789abcdef0L;
        C.due("p37 8 bits", x.write(0, 0, v), (byte) v);
        C.due("p37 16 bits", x.write(1, 0, v), (short) v);
        C.due("p37 32 bits", x.write(2, 0, v), (int) v);
        C.due("p37 64 bits", x.write(3, 0, v), v);
        C.due("p37 the least", x.write(3, 1, Long.MIN_VALUE), Long.MIN_VALUE);
        C.due("p37 128 of 8 bits", x.write(0, 1, 128), -128);
        C.due("p37 32768 of 16 bits", x.write(1, 1, 32768), -32768);
        C.due("p37 high bits alone", x.write(2, 1, 1L << 40), 0);
    }

    private static void p38And39Images() {
        BothSides x = Check.drawn("east 1;north 1;knot 3 3;");
        x.begin(0, 0, true);
        x.stitch(0);
        C.throwing("p38 image", NO_SUCH, () -> image(x, 3));
        C.throwing("p38 image", NO_SUCH, () -> image(x, -1));
        x.image(2);
        x.stitch(2);
        x.begin(13, 1, false);
        x.image(0);
        Check.draw(x, "at 5 5;ink 3;west 3;knot 0 0;knot 1 1;");
        x.tray(1, 3, 2);
        x.write(1, 1, 9);
        Check.feed(x, "east 12;");
        x.restore(2);
        C.due("p39 lines", x.count(0), 2);
        C.due("p39 knots", x.count(1), 1);
        C.due("p39 the knot", x.knot(0), 39);
        C.due("p39 cuts", x.count(2), 0);
        C.due("p39 the tape stays", x.count(4), 20);
        C.due("p39 the hole", x.thread(0), 1);
        C.due("p39 its ink", x.thread(3), 0);
        C.due("p39 its next stitch", x.thread(1), 0);
        C.due("p39 its way", x.done(0), 0);
        C.due("p39 not yet done", x.done(1), -1);
        C.due("p39 worked", x.line(0, 3), 1);
        C.due("p39 not yet worked", x.line(1, 3), 0);
        C.due("p39 the line from a hole", x.lineAt(65, 4), -1);
        C.due("p39 trays stay", x.write(1, 0, 3), 3);
        x.unpick(1);
        x.restore(0);
        C.due("p39 the other image", x.thread(4), 13);
        C.due("p39 its cut", x.count(2), 1);
        C.due("p39 its stitches", x.thread(2), 0);
        C.due("p39 both worked", x.seen(false), 1);
        Check.draw(x, "east 12;");
        C.due("p39 a fault", x.fault(0), 3);
        x.restore(2);
        C.due("p39 the fault stays", x.fault(0), 3);
        C.due("p39 its place stays", x.fault(1), 5);
        C.due("p39 again as it was", x.thread(2), 1);
        x.image(0);
        x.cut();
        x.restore(0);
        C.due("p38 an image anew", x.thread(2), 1);
        x.cut();
        x.image(0);
        x.begin(5, 1, true);
        x.restore(0);
        C.throwing("p39 no thread then", STATE, x::left);
        C.due("p39 its cuts", x.count(2), 1);
    }

    private static void p39RestoreThrows() {
        BothSides x = Check.drawn("east 1;");
        C.throwing("p39 image", NO_SUCH, () -> restore(x, 3));
        C.throwing("p39 image", NO_SUCH, () -> restore(x, -1));
        C.throwing("p39 none was made", STATE, () -> restore(x, 0));
        x.image(1);
        C.throwing("p39 not that one", STATE, () -> restore(x, 0));
        C.throwing("p39 not that one", STATE, () -> restore(x, 2));
        C.due("p39 throws change nothing", x.count(0), 1);
        Check.draw(x, "east 2;");
        x.restore(1);
        C.due("p39 that one", x.count(0), 1);
        x.drawing(0);
        x.image(2);
        x.restore(1);
        x.restore(2);
        C.due("p39 an image of nothing", x.count(0), 0);
    }

    private static void p40Count() {
        BothSides x = Check.drawn("east 3;knot 2 2;knot 2 2;knot 3 3;");
        x.begin(0, 0, true);
        Check.sew(x, "04");
        x.begin(0, 0, true);
        x.begin(1, 0, true);
        Check.sew(x, "04");
        x.cut();
        x.begin(2, 0, true);
        Check.sew(x, "0");
        Check.feed(x, "                       ");
        int[] due = {3, 2, 3, 2, 40};
        for (int what = 0; what < 5; what++) {
            C.due("p40 count " + what, x.count(what), due[what]);
        }
        C.due("p40 others", x.count(5), -1);
        C.due("p40 others", x.count(-1), -1);
        C.due("p40 others", x.count(Integer.MAX_VALUE), -1);
    }
}
