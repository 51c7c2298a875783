import java.lang.reflect.InvocationTargetException;
import java.lang.reflect.Method;
import java.util.ArrayList;
import java.util.Arrays;
import java.util.HashMap;
import java.util.List;
import java.util.Map;
import java.util.Random;

/** Runs of calls by seeds, each answer set against the slow model's. */
public final class RandomRunsTest {
    private static final int[] WRONG = {-1, -2, -3, 4, 5, 8, 12, 21, 41, 144, 1000, Integer.MIN_VALUE, Integer.MAX_VALUE};
    private static final Map<String, Method> FACE = new HashMap<>();
    private static final Map<String, Method> MODEL = new HashMap<>();
    private static final String[] CALLS = {
        "fault", "line", "lineAt", "ends", "knot", "parts", "partOf", "length", "crossings", "alike",
        "begin", "cut", "may", "stitch", "stitch", "stitch", "stitch", "stitch", "stitch", "stitch", "stitch",
        "unpick", "unpick", "thread", "done", "judge", "perform", "left", "barred", "ending", "working", "work", "ways", "unpicked",
        "unpicked", "places", "threads", "seen", "same", "sameAt", "sameAt", "unlike", "tray", "tray", "write", "write", "write", "write",
        "image", "restore", "count"};
    /** Calls for which the model tries all there is: for few LINES only. */
    private static final List<String> DEAR =
        List.of("barred", "ending", "working", "work", "ways", "unpicked", "places");

    private final Random random;
    private final int seed;
    private final Check check;
    private final BothSides x = new BothSides();
    private final Model m = new Model();
    private final List<String> told = new ArrayList<>();

    private RandomRunsTest(int seed, Check check) {
        this.seed = seed;
        this.check = check;
        random = new Random(seed);
    }

    public static void main(String[] args) {
        for (Method method : BothSides.class.getDeclaredMethods()) {
            FACE.put(method.getName(), method);
        }
        for (Method method : Model.class.getDeclaredMethods()) {
            if (!java.lang.reflect.Modifier.isStatic(method.getModifiers())) {
                MODEL.put(method.getName(), method);
            }
        }
        int runs = args.length > 0 ? Integer.parseInt(args[0]) : 700;
        Check check = new Check();
        for (int seed = 0; seed < runs; seed++) {
            new RandomRunsTest(seed, check).run();
        }
        check.end();
    }

    /** Every other run draws often and all sorts, the others sew in a few LINES. */
    private void run() {
        boolean sews = seed % 2 == 0;
        for (int k = 0; k < 130; k++) {
            if (k == 0 || random.nextInt(sews ? 60 : 20) == 0) {
                draw(sews ? Texts.small(random) : Texts.some(random));
            } else if (random.nextInt(60) == 0) {
                feed(random.nextInt(), 1, 2, 3, random.nextInt());
            }
            if (sews && !m.s.thread && !call("begin") || sews && random.nextInt(8) == 0 && !sew()) {
                return;
            }
            if (random.nextInt(15) == 0 && !tell()) {
                return;
            }
            if (!call(CALLS[random.nextInt(CALLS.length)])) {
                return;
            }
        }
    }

    private boolean sew() {
        for (int k = random.nextInt(10); k > 0; k--) {
            if (!call("stitch")) {
                return false;
            }
        }
        return true;
    }

    /** A TRAY of STITCHES most of which can be, and perhaps something else. */
    private boolean tell() {
        Model.State before = m.s.copy();
        List<Integer> row = new ArrayList<>();
        for (int k = random.nextInt(8); k > 0; k--) {
            int way = way();
            row.add(m.stitch(way) == 0 || random.nextInt(3) == 0 ? way : random.nextInt(300) - 100);
        }
        m.s = before;
        int tray = random.nextInt(3);
        boolean good = compare("tray", new Object[] {tray, random.nextInt(4), row.size()});
        for (int k = 0; k < row.size() && good; k++) {
            good = compare("write", new Object[] {tray, k, (long) row.get(k)});
        }
        for (int what = 0; what < 4 && good; what++) {
            good = compare("judge", new Object[] {tray, what});
        }
        return good && (random.nextBoolean() || compare("perform", new Object[] {tray}));
    }

    private void draw(String text) {
        told.add("drawing of «" + text + "»");
        for (int from = 0; from < text.length(); from += 20) {
            int[] v = new int[5];
            for (int k = 0; k < 20; k++) {
                v[k / 4] = v[k / 4] << 8 | (from + k < text.length() ? text.charAt(from + k) : random.nextInt(256));
            }
            feed(v);
        }
        int n = random.nextInt(10) == 0 ? random.nextInt(750) - 10 : text.length();
        compare("drawing", new Object[] {n});
    }

    private void feed(int... v) {
        check.due("feed", x.feed(v[0], v[1], v[2], v[3], v[4]), m.feed(v));
    }

    private boolean call(String name) {
        if (m.s.lines.size() > 7 && DEAR.contains(name)) {
            return true;
        }
        Class<?>[] types = FACE.get(name).getParameterTypes();
        Object[] args = new Object[types.length];
        for (int k = 0; k < args.length; k++) {
            if (types[k] == boolean.class) {
                args[k] = random.nextBoolean();
            } else if (types[k] == long.class) {
                args[k] = random.nextInt(4) == 0 ? random.nextLong() : (long) way();
            } else {
                args[k] = random.nextInt(12) == 0 ? WRONG[random.nextInt(WRONG.length)] : likely(name, k);
            }
        }
        return compare(name, args);
    }

    private int likely(String name, int k) {
        switch (name) {
            case "line": return k == 0 ? random.nextInt(m.s.lines.size() + 1) : random.nextInt(4);
            case "partOf": return random.nextInt(m.s.lines.size() + 1);
            case "lineAt": return k == 0 ? hole() : random.nextInt(8);
            case "ends": return k == 0 ? hole() : random.nextInt(5) - 1;
            case "begin": return k == 0 ? hole() : ink();
            case "parts": case "length": case "places": return ink();
            case "threads": return k == 0 ? ink() : 1 + random.nextInt(random.nextBoolean() ? 4 : 20);
            case "may": case "stitch": return way();
            case "unlike": return hole();
            case "unpick": return random.nextInt(random.nextBoolean() ? 4 : 15);
            case "working": return random.nextInt(12) - 2;
            case "done": case "sameAt": return random.nextInt(8) - 1;
            case "tray": return k == 2 ? random.nextInt(9) : random.nextInt(3);
            case "write": return k == 0 ? random.nextInt(3) : random.nextInt(8);
            case "judge": return k == 0 ? random.nextInt(3) : random.nextInt(4);
            case "perform": case "image": case "restore": return random.nextInt(3);
            case "barred": case "fault": return random.nextInt(2);
            case "unpicked": return random.nextInt(3);
            case "alike": return random.nextInt(4);
            default: return random.nextInt(5);
        }
    }

    private int ink() {
        return m.s.lines.isEmpty() || random.nextInt(4) == 0 ? random.nextInt(4)
            : m.s.lines.get(random.nextInt(m.s.lines.size())).ink();
    }

    private int hole() {
        if (m.s.lines.isEmpty() || random.nextInt(6) == 0) {
            return random.nextInt(144);
        }
        Model.Line line = m.s.lines.get(random.nextInt(m.s.lines.size()));
        return random.nextBoolean() ? line.from() : line.to();
    }

    /** Mostly one that can be. */
    private int way() {
        int first = random.nextInt(8);
        for (int k = 0; k < 8 && random.nextInt(30) > 0; k++) {
            if (m.may((first + k) % 8) == 0) {
                return (first + k) % 8;
            }
        }
        return first;
    }

    private boolean compare(String name, Object[] args) {
        String call = name + Arrays.toString(args);
        told.add(call);
        String got = answer(FACE.get(name), x, args);
        String want = answer(MODEL.get(name), m, args);
        told.set(told.size() - 1, call + " = " + got);
        check.due("run " + seed + " " + call, got, want);
        if (!got.equals(want)) {
            System.out.println("  behind " + told);
        }
        return got.equals(want);
    }

    private static String answer(Method method, Object object, Object[] args) {
        try {
            return String.valueOf(method.invoke(object, args));
        } catch (InvocationTargetException e) {
            if (object instanceof Model && !(e.getCause() instanceof IllegalArgumentException
                || e.getCause() instanceof IllegalStateException || e.getCause() instanceof IndexOutOfBoundsException
                || e.getCause() instanceof java.util.NoSuchElementException)) {
                throw new IllegalStateException(e.getCause());
            }
            return e.getCause().getClass().getName();
        } catch (IllegalAccessException e) {
            throw new IllegalStateException(e);
        }
    }
}
