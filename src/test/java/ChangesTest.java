import java.util.ArrayList;
import java.util.List;
import java.util.Map;
import java.util.TreeMap;

/** Each call that changes something leaves all else as it is: what it may change is told with it. */
public final class ChangesTest {
    private static final Check C = new Check();
    /** From HOLE 0 of the square: rounds, one that comes to a STITCH done before, one with no WAY in it. */
    private static final long[][] ROWS = {{0, 2, 4, 6}, {2, 0, 6, 4}, {0, 2, 4, 6, 0, 2}, {0, 1L << 32, 2}};
    private static final String[] JUDGED = {"-1 0 0 4", "-1 0 0 4", "4 3 0 4", "1 2 1 7"};

    private ChangesTest() {
    }

    public static void main(String[] args) {
        List<Reading.Story> states = List.of(x -> midway(x, false), x -> midway(x, true), ChangesTest::atTheEnd);
        for (int k = 0; k < states.size(); k++) {
            Reading.Story state = states.get(k);
            traysAreTold("state " + k, state);
            leaves(k, state, "feed", x -> x.feed(1, 2, 3, 4, 5), "tape");
            leaves(k, state, "drawing, good", x -> x.drawing(7), "fault drawing worked thread tape");
            leaves(k, state, "drawing, nothing", x -> x.drawing(0), "fault drawing worked thread tape");
            leaves(k, state, "drawing, faulty", x -> x.drawing(6), "fault tape");
            leaves(k, state, "begin", x -> x.begin(13, 1, false), "thread");
            leaves(k, state, "cut", x -> x.cut(), "thread");
            leaves(k, state, "stitch", x -> C.due("a stitch", goes(x), true), "worked thread");
            leaves(k, state, "unpick", x -> x.unpick(1), "worked thread");
            leaves(k, state, "unpick none", x -> x.unpick(0), "");
            leaves(k, state, "perform", x -> x.perform(1), "worked thread");
            leaves(k, state, "work", x -> x.work(), "worked thread");
            leaves(k, state, "tray", x -> x.tray(2, 1, 3), "tray2");
            leaves(k, state, "write", x -> x.write(1, 1, 5), "tray1");
            leaves(k, state, "image of none", x -> x.image(2), "image2");
            leaves(k, state, "image again", x -> x.image(0), "image0");
            leaves(k, state, "restore", x -> x.restore(1), "drawing worked thread");
            leaves(k, state, "judge", x -> x.judge(0, 3), "");
            leaves(k, state, "sameAt", x -> x.sameAt(1), "");
            leaves(k, state, "unpicked", x -> x.unpicked(true, 0), "");
        }
        C.end();
    }

    private static boolean goes(BothSides x) {
        for (int way = 0; way < 8; way++) {
            if (x.stitch(way) == 0) {
                return true;
            }
        }
        return false;
    }

    // ---- states: a tape, a FAULT, all TRAYS, two IMAGES

    private static void midway(BothSides x, boolean others) {
        Check.draw(x, Texts.SQUARE + "knot 1 1;ink 1;northeast 2;");
        x.begin(0, 0, !others);
        Check.sew(x, others ? "0202" : "02");
        x.image(1);
        if (others) {
            x.begin(0, 0, true);
            Check.sew(x, "20");
        }
        Check.draw(x, "knot 3 3;" + Texts.SQUARE + "ink 1;at 5 5;knot 5 5;west 2;");
        x.begin(65, 1, true);
        Check.sew(x, others ? "" : "4");
        x.image(0);
        x.begin(1, 0, others);
        Check.sew(x, "24");
        rest(x);
    }

    private static void atTheEnd(BothSides x) {
        Check.draw(x, "at 1 0;west 1;");
        x.image(1);
        x.image(0);
        Check.draw(x, Texts.SQUARE);
        x.begin(12, 0, false);
        x.work();
        x.unpick(3);
        rest(x);
    }

    private static void rest(BothSides x) {
        Check.draw(x, "at 1 1;east 0;");
        for (int tray = 0; tray < 4; tray++) {
            Check.lay(x, tray, tray, ROWS[tray]);
        }
        Check.feed(x, "east 1;west 1;?");
    }

    // ---- parts of what an object holds

    private static void leaves(int state, Reading.Story before, String call, Reading.Story change, String changed) {
        Map<String, String> due = parts(before);
        Map<String, String> got = parts(x -> {
            before.tell(x);
            change.tell(x);
        });
        for (String part : due.keySet()) {
            if (!List.of(changed.split(" ")).contains(part)) {
                C.due("state " + state + ", " + call + " leaves " + part, got.get(part).equals(due.get(part)), true);
            }
        }
    }

    private static Map<String, String> parts(Reading.Story story) {
        Map<String, String> parts = new TreeMap<>();
        parts.put("fault", asked(story, -1, List.of(new Reading.Call("fault", 0), new Reading.Call("fault", 1))));
        parts.put("drawing", drawing(story, -1));
        parts.put("worked", worked(story, -1));
        parts.put("thread", thread(story, -1));
        parts.put("tape", tape(story));
        for (int image = 0; image < 3; image++) {
            parts.put("image" + image, drawing(story, image) + worked(story, image) + thread(story, image));
        }
        for (int tray = 0; tray < 4; tray++) {
            parts.put("tray" + tray, judged(story, tray) + sort(story, tray));
        }
        return parts;
    }

    private static String asked(Reading.Story story, int image, List<Reading.Call> calls) {
        BothSides x = told(story);
        if (image >= 0 && !Reading.answer(x, "restore", image).equals("null")) {
            return "none";
        }
        StringBuilder row = new StringBuilder();
        for (Reading.Call call : calls) {
            row.append(Reading.answer(x, call)).append(' ');
        }
        return row.toString();
    }

    private static BothSides told(Reading.Story story) {
        BothSides x = new BothSides();
        story.tell(x);
        return x;
    }

    private static String drawing(Reading.Story story, int image) {
        List<Reading.Call> calls = new ArrayList<>(List.of(new Reading.Call("count", 0), new Reading.Call("count", 1)));
        for (int k = 0; k < 8; k++) {
            calls.add(new Reading.Call("line", k, 0));
            calls.add(new Reading.Call("line", k, 1));
            calls.add(new Reading.Call("line", k, 2));
            calls.add(new Reading.Call("knot", k));
        }
        for (int hole = 0; hole < 144; hole++) {
            calls.add(new Reading.Call("ends", hole, -1));
            calls.add(new Reading.Call("lineAt", hole, hole % 8));
        }
        return asked(story, image, calls);
    }

    private static String worked(Reading.Story story, int image) {
        List<Reading.Call> calls = new ArrayList<>(List.of(new Reading.Call("seen", true), new Reading.Call("seen", false)));
        for (int k = 0; k < 8; k++) {
            calls.add(new Reading.Call("line", k, 3));
        }
        return asked(story, image, calls);
    }

    private static String thread(Reading.Story story, int image) {
        List<Reading.Call> calls = new ArrayList<>(List.of(new Reading.Call("count", 2)));
        for (int k = 0; k < 8; k++) {
            calls.add(new Reading.Call("thread", k));
            calls.add(new Reading.Call("done", k));
        }
        return asked(story, image, calls);
    }

    private static String tape(Reading.Story story) {
        BothSides x = told(story);
        int many = x.count(4);
        return many + " " + Reading.answer(x, "drawing", Math.min(many, 14)) + " " + Reading.answer(told(story), "drawing", many);
    }

    /** What a TRAY tells to a THREAD that begins at HOLE 0 of the square. */
    private static String judged(Reading.Story story, int tray) {
        BothSides x = told(story);
        x.drawing(0);
        Check.draw(x, Texts.SQUARE);
        x.begin(0, 0, true);
        StringBuilder row = new StringBuilder();
        for (int what = 0; what < 4; what++) {
            row.append(what == 0 ? "" : " ").append(Reading.answer(x, "judge", tray, what));
        }
        return row.toString();
    }

    private static String sort(Reading.Story story, int tray) {
        BothSides x = told(story);
        StringBuilder row = new StringBuilder();
        for (int place = 0; place < 8; place++) {
            row.append(' ').append(Reading.answer(x, "write", tray, place, 0x8f9fafbfcfdfefffL));
        }
        return row.toString();
    }

    /** All TRAYS stay, whatever was drawn, begun and restored since. */
    private static void traysAreTold(String state, Reading.Story story) {
        for (int tray = 0; tray < 4; tray++) {
            C.due(state + ": tray " + tray, judged(story, tray), JUDGED[tray]);
            C.due(state + ": tray " + tray + ", restored", judged(x -> {
                story.tell(x);
                x.restore(0);
            }, tray), JUDGED[tray]);
        }
    }
}
