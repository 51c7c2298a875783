import java.lang.reflect.InvocationTargetException;
import java.lang.reflect.Method;
import java.util.ArrayList;
import java.util.Arrays;
import java.util.HashMap;
import java.util.List;
import java.util.Map;

/** All that an object can be asked behind a story, so that two stories can be set against one another. */
final class Reading {
    /** What is done with a new object: some 100 calls at most. */
    interface Story {
        void tell(BothSides x);
    }

    /** No object is asked more than the document lets it be used. */
    private static final int ASKED_AT_ONCE = 400;
    private static final int[] HOLES = {0, 1, 2, 11, 12, 13, 14, 26, 39, 52, 64, 65, 66, 77, 78, 91, 131, 132, 143};
    private static final Map<String, Method> FACE = new HashMap<>();

    record Call(String name, Object... args) {
        String told() {
            return name + Arrays.toString(args);
        }
    }

    static {
        for (Method method : BothSides.class.getDeclaredMethods()) {
            FACE.put(method.getName(), method);
        }
    }

    private Reading() {
    }

    /** The answer, or the name of what was thrown. */
    static String answer(BothSides x, Call call) {
        try {
            return String.valueOf(FACE.get(call.name).invoke(x, call.args));
        } catch (InvocationTargetException e) {
            return e.getCause().getClass().getName();
        } catch (IllegalAccessException e) {
            throw new IllegalStateException(e);
        }
    }

    static String answer(BothSides x, String name, Object... args) {
        return answer(x, new Call(name, args));
    }

    /** Calls that only ask: they change nothing, so that one object can be asked many of them. */
    static List<Call> asked() {
        List<Call> row = new ArrayList<>();
        askDrawing(row);
        askThread(row);
        askLeft(row);
        askFaces(row);
        return row;
    }

    private static void add(List<Call> row, String name, Object... args) {
        row.add(new Call(name, args));
    }

    private static void askDrawing(List<Call> row) {
        for (int what = 0; what < 5; what++) {
            add(row, "fault", what);
            add(row, "count", what);
        }
        for (int line : new int[] {0, 1, 2, 3, 4, 5, 30, 59, 60}) {
            for (int what = 0; what < 4; what++) {
                add(row, "line", line, what);
            }
            add(row, "partOf", line);
        }
        for (int hole : HOLES) {
            for (int way = 0; way < 8; way++) {
                add(row, "lineAt", hole, way);
            }
            add(row, "ends", hole, -1);
            add(row, "ends", hole, 0);
            add(row, "ends", hole, 1);
            add(row, "unlike", hole);
        }
        for (int k = 0; k < 4; k++) {
            add(row, "knot", k);
            add(row, "parts", k);
            add(row, "length", k);
            add(row, "alike", k);
        }
        add(row, "length", -1);
        add(row, "crossings", true);
        add(row, "crossings", false);
    }

    private static void askThread(List<Call> row) {
        for (int k = 0; k < 8; k++) {
            add(row, "may", k);
            add(row, "done", k);
        }
        add(row, "done", 119);
        for (int what = 0; what < 5; what++) {
            add(row, "thread", what);
        }
        for (int tray = 0; tray < 4; tray++) {
            for (int what = 0; what < 4; what++) {
                add(row, "judge", tray, what);
            }
        }
    }

    private static void askLeft(List<Call> row) {
        add(row, "left");
        add(row, "barred", 0);
        add(row, "barred", 1);
        add(row, "ending");
        add(row, "ways");
        for (int k = -1; k < 9; k++) {
            add(row, "working", k);
        }
        for (int what = 0; what < 3; what++) {
            add(row, "unpicked", false, what);
            add(row, "unpicked", true, what);
        }
        add(row, "places", 0);
        add(row, "threads", 0, 3);
        add(row, "threads", 1, 20);
    }

    private static void askFaces(List<Call> row) {
        add(row, "seen", true);
        add(row, "seen", false);
        add(row, "same");
        for (int k = 0; k < 4; k++) {
            add(row, "sameAt", k);
        }
    }

    /** All answers behind a story: as it is, with each IMAGE in its place, what TRAYS have and what the tape has. */
    static String of(Story story) {
        StringBuilder told = new StringBuilder();
        List<Call> asked = asked();
        for (int image = -1; image < 3; image++) {
            BothSides x = null;
            for (int k = 0; k < asked.size(); k++) {
                if (k % ASKED_AT_ONCE == 0) {
                    x = told(story, image);
                    if (x == null) {
                        told.append("no image ").append(image);
                        break;
                    }
                }
                told.append(asked.get(k).told()).append('=').append(answer(x, asked.get(k))).append(' ');
            }
        }
        return told.append(judged(story)).append(trays(story)).append(tape(story)).toString();
    }

    /** An object behind its story, and as in an IMAGE then; null if none was made. */
    private static BothSides told(Story story, int image) {
        BothSides x = new BothSides();
        story.tell(x);
        return image < 0 || answer(x, new Call("restore", image)).equals("null") ? x : null;
    }

    /** What TRAYS tell to a THREAD from each HOLE, where there is none to judge them. */
    private static String judged(Story story) {
        StringBuilder told = new StringBuilder();
        BothSides x = told(story, -1);
        for (int hole : HOLES) {
            for (int face = 0; face < 2; face++) {
                x.begin(hole, 0, face == 1);
                for (int tray = 0; tray < 4; tray++) {
                    told.append(answer(x, "judge", tray, 0)).append(' ').append(answer(x, "judge", tray, 2)).append(' ');
                }
            }
        }
        return told.toString();
    }

    /** What the bytes of the tape come to. */
    private static String tape(Story story) {
        BothSides x = told(story, -1);
        int got = x.drawing(x.count(4));
        return "tape: " + got + " " + x.fault(0) + " " + x.fault(1) + " " + (got > 0 ? x.line(got - 1, 1) : -1);
    }

    /** How many places each TRAY has, and what a great number is in its last one. */
    private static String trays(Story story) {
        StringBuilder told = new StringBuilder();
        BothSides x = told(story, -1);
        for (int tray = 0; tray < 4; tray++) {
            for (int place = 0; place < 41; place++) {
                String got = answer(x, new Call("write", tray, place, 0x8f9fafbfcfdfefffL));
                told.append(place == 0 || got.length() > 30 ? tray + ":" + place + " " + got + " " : "");
                if (got.length() > 30) {
                    break;
                }
            }
        }
        return told.toString();
    }
}
