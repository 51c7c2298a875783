import java.util.ArrayList;
import java.util.List;

/**
 * Calls that are refused, in all sorts of states: "of several throws of a call that one comes that is told first",
 * "a call that throws changes nothing", and what else the document says to change nothing.
 */
public final class RefusedTest {
    private static final Check C = new Check();
    private static final int LEAST = Integer.MIN_VALUE;
    private static final int MOST = Integer.MAX_VALUE;

    /** A state, by a story that leads there; what it has is told once more, to know what is refused in it. */
    private record Place(String name, Reading.Story story, int fed, int lines, int stitches, int[] trays, boolean[] images) {
        boolean hasThread() {
            return stitches >= 0;
        }
    }

    private record Refusal(Reading.Call call, String due) { }

    private RefusedTest() {
    }

    public static void main(String[] args) {
        for (Place p : places()) {
            String before = Reading.of(p.story);
            for (Refusal r : refusals(p)) {
                refused(p, r, before);
            }
            for (Refusal r : quiet(p)) {
                refused(p, r, before);
            }
            asking(p, before);
        }
        cantBe();
        faultyDrawings();
        C.end();
    }

    // ---- states

    private static List<Place> places() {
        int[] none = {-1, -1, -1, -1};
        boolean[] no = new boolean[3];
        List<Place> row = new ArrayList<>();
        row.add(new Place("new", x -> { }, 0, 0, -1, none, no));
        row.add(new Place("full tape", x -> feed(x, 35), 700, 0, -1, none, no));
        row.add(new Place("drawn", RefusedTest::drawn, 20, 3, -1, new int[] {3, -1, 0, 40}, new boolean[] {true, false, false}));
        row.add(new Place("begun", RefusedTest::begun, 0, 5, 0, new int[] {-1, 3, -1, 0}, new boolean[] {false, false, true}));
        row.add(new Place("sewn", RefusedTest::sewn, 680, 5, 3, new int[] {2, 3, 4, 1}, new boolean[] {true, true, true}));
        row.add(new Place("cut", RefusedTest::cut, 0, 4, -1, new int[] {1, 2, -1, -1}, new boolean[] {false, true, false}));
        row.add(new Place("all worked", RefusedTest::allWorked, 0, 60, 120, none, no));
        return row;
    }

    private static void feed(BothSides x, int many) {
        for (int k = 0; k < many; k++) {
            x.feed(0x65617374, 0x20313b20, 0x6e6f7274, 0x6820323b, 0x20200a0a);
        }
    }

    /** Three LINES of two INKS, a KNOT, a FAULT behind them, something on the tape. */
    private static void drawn(BothSides x) {
        x.image(0);
        Check.draw(x, "at 1 1;east 1;ink 1;north 1;knot 3 3;northwest 1;");
        Check.draw(x, "knot 1 1;east 12;");
        Check.lay(x, 0, 0, 0, 4, 2);
        x.tray(2, 1, 0);
        x.tray(3, 3, 40);
        x.write(3, 1, 4);
        feed(x, 1);
    }

    private static void begun(BothSides x) {
        Check.draw(x, Texts.SQUARE + "east 1;northeast 1;");
        x.begin(0, 0, false);
        x.image(2);
        x.begin(1, 0, true);
        Check.lay(x, 1, 1, 0, 4, 2);
        x.tray(3, 2, 0);
    }

    private static void sewn(BothSides x) {
        x.image(1);
        Check.draw(x, Texts.SQUARE + "ink 1;northeast 1;");
        x.begin(1, 0, false);
        Check.sew(x, "42");
        x.image(0);
        x.begin(0, 0, true);
        Check.sew(x, "020");
        Check.sew(x, "46");
        x.unpick(1);
        x.image(2);
        Check.lay(x, 0, 0, 6, 2);
        Check.lay(x, 1, 1, 6, 0, 2);
        Check.lay(x, 2, 2, 6, 2, 6, 2);
        Check.lay(x, 3, 3, -1);
        feed(x, 34);
    }

    private static void cut(BothSides x) {
        Check.draw(x, Texts.SQUARE);
        x.begin(0, 0, true);
        Check.sew(x, "024");
        x.image(1);
        x.cut();
        Check.lay(x, 0, 3, 1L << 32);
        Check.lay(x, 1, 2, 4, 6);
    }

    private static void allWorked(BothSides x) {
        Check.draw(x, Texts.ROWS);
        x.begin(0, 0, true);
        x.work();
    }

    // ---- what is refused there

    private static List<Refusal> refusals(Place p) {
        List<Refusal> row = new ArrayList<>();
        ofDrawing(row, p);
        ofThread(row, p);
        ofJudged(row, p);
        ofLeft(row, p);
        ofTrays(row, p);
        return row;
    }

    private static void add(List<Refusal> row, String due, String name, Object... args) {
        row.add(new Refusal(new Reading.Call(name, args), due));
    }

    private static void ofDrawing(List<Refusal> row, Place p) {
        for (int n : new int[] {LEAST, -1, p.fed + 1, MOST}) {
            add(row, Check.WRONG, "drawing", n);
        }
        for (int line : new int[] {LEAST, -1, p.lines, 60, 64, MOST}) {
            for (int what : new int[] {0, 3, -1, 4}) {
                add(row, Check.NO_SUCH, "line", line, what);
            }
            add(row, Check.NO_SUCH, "partOf", line);
        }
        for (int what : new int[] {LEAST, -1, 4, MOST}) {
            if (p.lines > 0) {
                add(row, Check.WRONG, "line", 0, what);
                add(row, Check.WRONG, "line", p.lines - 1, what);
            }
            add(row, Check.WRONG, "alike", what);
        }
        for (int hole : new int[] {LEAST, -1, 144, MOST}) {
            add(row, Check.NO_SUCH, "lineAt", hole, 0);
            add(row, Check.NO_SUCH, "lineAt", hole, 8);
            add(row, Check.NO_SUCH, "ends", hole, 0);
            add(row, Check.NO_SUCH, "ends", hole, 4);
            add(row, Check.NO_SUCH, "ends", hole, -1);
            add(row, Check.NO_SUCH, "unlike", hole);
        }
        for (int way : new int[] {LEAST, -1, 8, MOST}) {
            add(row, Check.NO_SUCH, "lineAt", 0, way);
            add(row, Check.NO_SUCH, "lineAt", 143, way);
        }
        for (int ink : new int[] {LEAST, -2, 4, MOST}) {
            add(row, Check.WRONG, "ends", 0, ink);
            add(row, Check.WRONG, "length", ink);
        }
        for (int ink : new int[] {LEAST, -1, 4, MOST}) {
            add(row, Check.WRONG, "parts", ink);
        }
    }

    private static void ofThread(List<Refusal> row, Place p) {
        for (int hole : new int[] {LEAST, -1, 144, MOST}) {
            add(row, Check.NO_SUCH, "begin", hole, 0, true);
            add(row, Check.NO_SUCH, "begin", hole, 4, false);
        }
        for (int ink : new int[] {LEAST, -1, 4, MOST}) {
            add(row, Check.WRONG, "begin", 0, ink, true);
            add(row, Check.WRONG, "begin", 143, ink, false);
        }
        for (int way : new int[] {LEAST, -1, 8, MOST}) {
            add(row, Check.NO_SUCH, "may", way);
            add(row, Check.NO_SUCH, "stitch", way);
        }
        for (int n : new int[] {LEAST, -1, p.hasThread() ? p.stitches + 1 : 0, MOST}) {
            add(row, p.hasThread() ? Check.WRONG : Check.STATE, "unpick", n);
        }
        for (int what : new int[] {LEAST, -1, 5, MOST}) {
            add(row, p.hasThread() ? Check.WRONG : Check.STATE, "thread", what);
        }
        if (!p.hasThread()) {
            add(row, Check.STATE, "cut");
            add(row, Check.STATE, "thread", 0);
            add(row, Check.STATE, "thread", 4);
            for (int k : new int[] {LEAST, -1, 0, MOST}) {
                add(row, Check.STATE, "done", k);
                add(row, Check.STATE, "sameAt", k);
            }
        }
    }

    private static void ofJudged(List<Refusal> row, Place p) {
        for (int tray : new int[] {LEAST, -1, 4, MOST}) {
            add(row, Check.NO_SUCH, "judge", tray, 0);
            add(row, Check.NO_SUCH, "judge", tray, 4);
            add(row, Check.NO_SUCH, "perform", tray);
        }
        for (int tray = 0; tray < 4; tray++) {
            if (!p.hasThread() || p.trays[tray] < 0) {
                add(row, Check.STATE, "judge", tray, 0);
                add(row, Check.STATE, "judge", tray, 4);
                add(row, Check.STATE, "judge", tray, -1);
                add(row, Check.STATE, "perform", tray);
            } else {
                for (int what : new int[] {LEAST, -1, 4, MOST}) {
                    add(row, Check.WRONG, "judge", tray, what);
                }
            }
        }
    }

    private static void ofLeft(List<Refusal> row, Place p) {
        if (!p.hasThread()) {
            add(row, Check.STATE, "left");
            add(row, Check.STATE, "ending");
            add(row, Check.STATE, "work");
            add(row, Check.STATE, "ways");
            add(row, Check.STATE, "working", -1);
            add(row, Check.STATE, "working", 0);
            add(row, Check.STATE, "barred", 0);
            add(row, Check.STATE, "unpicked", true, 2);
        }
        for (int what : new int[] {LEAST, -1, 2, MOST}) {
            add(row, p.hasThread() ? Check.WRONG : Check.STATE, "barred", what);
        }
        for (int what : new int[] {LEAST, -1, 3, MOST}) {
            add(row, p.hasThread() ? Check.WRONG : Check.STATE, "unpicked", false, what);
            add(row, p.hasThread() ? Check.WRONG : Check.STATE, "unpicked", true, what);
        }
        for (int ink : new int[] {LEAST, -1, 4, MOST}) {
            add(row, Check.WRONG, "places", ink);
            add(row, Check.WRONG, "threads", ink, 1);
            add(row, Check.WRONG, "threads", ink, 0);
        }
        for (int length : new int[] {LEAST, -1, 0, 21, MOST}) {
            add(row, Check.WRONG, "threads", 0, length);
            add(row, Check.WRONG, "threads", 3, length);
        }
    }

    private static void ofTrays(List<Refusal> row, Place p) {
        for (int tray : new int[] {LEAST, -1, 4, MOST}) {
            add(row, Check.NO_SUCH, "tray", tray, 0, 0);
            add(row, Check.NO_SUCH, "tray", tray, 4, 41);
            add(row, Check.NO_SUCH, "write", tray, 0, 1L);
            add(row, Check.NO_SUCH, "write", tray, -1, 1L);
        }
        for (int tray = 0; tray < 4; tray++) {
            for (int wrong : new int[] {LEAST, -1, 4, MOST}) {
                add(row, Check.WRONG, "tray", tray, wrong, 1);
            }
            for (int wrong : new int[] {LEAST, -1, 41, MOST}) {
                add(row, Check.WRONG, "tray", tray, 0, wrong);
                add(row, p.trays[tray] < 0 ? Check.STATE : Check.OUTSIDE, "write", tray, wrong, 1L);
            }
            add(row, p.trays[tray] < 0 ? Check.STATE : Check.OUTSIDE, "write", tray, Math.max(0, p.trays[tray]), 1L);
        }
        for (int image : new int[] {LEAST, -1, 3, MOST}) {
            add(row, Check.NO_SUCH, "image", image);
            add(row, Check.NO_SUCH, "restore", image);
        }
        for (int image = 0; image < 3; image++) {
            if (!p.images[image]) {
                add(row, Check.STATE, "restore", image);
            }
        }
    }

    /** Calls that answer and change nothing, for the document has no answer for them. */
    private static List<Refusal> quiet(Place p) {
        List<Refusal> row = new ArrayList<>();
        for (int what : new int[] {LEAST, -1, 2, MOST}) {
            add(row, "-1", "fault", what);
        }
        for (int what : new int[] {LEAST, -1, 5, MOST}) {
            add(row, "-1", "count", what);
        }
        for (int k : new int[] {LEAST, -1, 144, MOST}) {
            add(row, "-1", "knot", k);
        }
        if (p.fed > 680) {
            add(row, "-1", "feed", 0, 1, -1, LEAST, MOST);
        }
        if (p.hasThread()) {
            for (int k : new int[] {LEAST, -1, p.stitches, 120, MOST}) {
                add(row, "-1", "done", k);
            }
            for (int k : new int[] {LEAST, -1, 121, MOST}) {
                add(row, "-1", "sameAt", k);
            }
            for (int k : new int[] {LEAST, -2, 120, MOST}) {
                add(row, "-1", "working", k);
            }
        } else {
            for (int way = 0; way < 8; way++) {
                add(row, "1", "may", way);
                add(row, "1", "stitch", way);
            }
        }
        return row;
    }

    private static void refused(Place p, Refusal r, String before) {
        BothSides x = new BothSides();
        p.story.tell(x);
        C.due(p.name + ": " + r.call.told(), Reading.answer(x, r.call), r.due);
        unchanged(p.name + ": behind " + r.call.told(), before, y -> {
            p.story.tell(y);
            Reading.answer(y, r.call);
        });
    }

    private static void unchanged(String what, String before, Reading.Story story) {
        String after = Reading.of(story);
        int k = 0;
        while (k < before.length() && k < after.length() && before.charAt(k) == after.charAt(k)) {
            k++;
        }
        int from = Math.max(0, k - 40);
        C.due(what, after.substring(Math.min(from, after.length()), Math.min(k + 20, after.length())),
            before.substring(Math.min(from, before.length()), Math.min(k + 20, before.length())));
    }

    /** To ask changes nothing. */
    private static void asking(Place p, String before) {
        for (Reading.Call call : Reading.asked()) {
            unchanged(p.name + ": asked " + call.told(), before, y -> {
                p.story.tell(y);
                Reading.answer(y, call);
            });
        }
    }

    // ---- what can't be done

    private static void kept(String what, Reading.Story story, String due, String name, Object... args) {
        Reading.Call call = new Reading.Call(name, args);
        BothSides x = new BothSides();
        story.tell(x);
        C.due(what, Reading.answer(x, call), due);
        unchanged(what + ", and changes nothing", Reading.of(story), y -> {
            story.tell(y);
            Reading.answer(y, call);
        });
    }

    /** "By what it CAN'T be (nothing happens then)", and its like. */
    private static void cantBe() {
        kept("p17 no line of its ink", RefusedTest::sewn, "2", "stitch", 3);
        kept("p17 a line of another ink", y -> {
            sewn(y);
            y.unpick(3);
        }, "2", "stitch", 1);
        kept("p17 worked so already", y -> {
            sewn(y);
            y.unpick(2);
        }, "3", "stitch", 4);
        kept("p22 of a tray without numbers", RefusedTest::begun, "0", "perform", 3);
        kept("p22 the first can't be", RefusedTest::sewn, "0", "perform", 3);
        kept("p27 there is no working", y -> {
            Check.draw(y, "east 1;at 5 5;east 1;");
            y.begin(0, 0, true);
        }, "-1", "work");
        kept("p27 nothing is left", RefusedTest::allWorked, "0", "work");
        kept("p18 none are taken out", RefusedTest::sewn, "3", "unpick", 0);
    }

    /** "-10 less the FAULT (all else stays)": all but the FAULT and the tape, which is empty then. */
    private static void faultyDrawings() {
        String[] texts = {"knot 1 1;?", "knot 1 1;east;", "knot 1 1;east 12;", "knot 1 1;turn(turn(turn(turn(turn(turn(",
            "knot 1 1;east 3;west 4;", "knot 1 1;" + Texts.ROWS + "east 1;", "knot 1 1;times 12(times 12(east 5;west 5;););"};
        Reading.Story[] stories = {x -> { }, RefusedTest::begun, RefusedTest::cut, RefusedTest::allWorked};
        for (Reading.Story story : stories) {
            String before = butFaultAndTape(Reading.of(story));
            for (int k = 0; k < texts.length; k++) {
                String text = texts[k];
                BothSides x = new BothSides();
                story.tell(x);
                C.due("p3 " + text, Check.draw(x, text), -11 - k);
                C.due("p4 " + text, x.fault(0), k + 1);
                C.due("p3 the tape is empty", x.count(4), 0);
                C.due("p3 all else stays behind " + text, butFaultAndTape(Reading.of(y -> {
                    story.tell(y);
                    Check.draw(y, text);
                })).equals(before), true);
            }
        }
    }

    private static String butFaultAndTape(String told) {
        return told.replaceAll("(fault\\[\\d\\]|count\\[4\\])=-?\\d+ ", "");
    }
}
