import java.util.NoSuchElementException;

/** Promises 32 to 35: what the faces show. */
public final class FacesTest {
    private static final Check C = new Check();
    private static final String SQUARE = "east 1;north 1;west 1;south 1;";

    private FacesTest() {
    }

    public static void main(String[] args) {
        p32Seen();
        p33Same();
        p34SameAt();
        p35Unlike();
        C.end();
    }

    private static void p32Seen() {
        BothSides x = Check.drawn(SQUARE + "ink 1;east 1;");
        x.begin(0, 0, true);
        Check.sew(x, "024");
        C.due("p32 over", x.seen(true), 2);
        C.due("p32 under", x.seen(false), 1);
        x.begin(0, 0, true);
        Check.sew(x, "2");
        C.due("p32 of cut threads too", x.seen(true), 3);
        x = Check.drawn("east 1;ink 1;north 1;");
        x.begin(0, 0, false);
        Check.sew(x, "0");
        x.begin(1, 1, false);
        Check.sew(x, "2");
        C.due("p32 of all inks", x.seen(false), 2);
        C.due("p32 none over", x.seen(true), 0);
    }

    private static void p33Same() {
        BothSides x = Check.drawn("east 1;ink 1;north 1;");
        C.due("p33 nothing worked", x.same(), true);
        x.begin(0, 0, true);
        x.stitch(0);
        C.due("p33 one face", x.same(), false);
        x.begin(1, 1, false);
        x.stitch(2);
        C.due("p33 over one, under another", x.same(), false);
        x.begin(0, 0, false);
        x.stitch(0);
        C.due("p33 the other ink still", x.same(), false);
        x.begin(1, 1, true);
        x.stitch(2);
        C.due("p33 all on both", x.same(), true);
    }

    private static void p34SameAt() {
        BothSides x = Check.drawn("east 3;ink 1;north 1;");
        C.throwing("p34 no thread", IllegalStateException.class, () -> x.sameAt(0));
        x.begin(0, 0, true);
        C.due("p34 without stitches", x.sameAt(0), 0);
        C.due("p34 that's all", x.sameAt(1), -1);
        Check.sew(x, "040");
        Check.sew(x, "0044");
        C.due("p34 stitches that were", x.thread(2), 2);
        x.begin(1, 0, true);
        Check.sew(x, "0404");
        C.due("p34 none at first", x.thread(2), 2);
        C.due("p34 first", x.sameAt(0), 0);
        C.due("p34 second", x.sameAt(1), 2);
        C.due("p34 no third", x.sameAt(2), -1);
        C.due("p34 below 0", x.sameAt(-1), -1);
        C.due("p34 far above", x.sameAt(Integer.MAX_VALUE), -1);
        C.due("p34 nothing changed", x.count(3), 2);
        x.begin(3, 1, true);
        C.due("p34 another ink's line", x.stitch(2), 0);
        C.due("p34 before it", x.sameAt(0), 0);
        C.due("p34 not behind it", x.sameAt(1), -1);
        x.begin(3, 0, false);
        C.due("p34 what else is worked spoils all", x.sameAt(0), -1);
        x.begin(3, 1, false);
        x.stitch(2);
        C.due("p34 one that makes it good", x.sameAt(0), 1);
        C.due("p34 alone", x.sameAt(1), -1);
    }

    private static void p35Unlike() {
        BothSides x = Check.drawn(SQUARE + "ink 1;southwest 1;".replace("southwest", "northeast"));
        x.begin(0, 0, true);
        Check.sew(x, "02");
        C.due("p35 one", x.unlike(0), 1);
        C.due("p35 two", x.unlike(1), 2);
        C.due("p35 one at the end", x.unlike(13), 1);
        C.due("p35 none", x.unlike(12), 0);
        Check.sew(x, "46");
        x.begin(0, 1, false);
        Check.sew(x, "1");
        C.due("p35 of all inks", x.unlike(0), 3);
        x.begin(0, 0, false);
        Check.sew(x, "0");
        C.due("p35 on both faces no more", x.unlike(0), 2);
        C.due("p35 bare", x.unlike(143), 0);
        C.throwing("p35 hole", NoSuchElementException.class, () -> x.unlike(144));
        C.throwing("p35 hole", NoSuchElementException.class, () -> x.unlike(-1));
    }
}
