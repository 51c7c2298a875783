/** Counts the answers that are not due; each test ends with its verdict. */
final class Check {
    /** A call that may throw. */
    interface Call {
        long answer();
    }

    static final String NO_SUCH = "java.util.NoSuchElementException";
    static final String WRONG = "java.lang.IllegalArgumentException";
    static final String STATE = "java.lang.IllegalStateException";
    static final String OUTSIDE = "java.lang.IndexOutOfBoundsException";

    private int wrong = 0;
    private int calls = 0;

    void due(String what, long got, long want) {
        calls++;
        if (got != want) {
            wrong++;
            System.out.println(what + " answered " + got + ", due is " + want);
        }
    }

    void due(String what, boolean got, boolean want) {
        due(what, got ? 1 : 0, want ? 1 : 0);
    }

    /** The very class is due, none below or above it. */
    void throwing(String what, Class<? extends RuntimeException> want, Call call) {
        calls++;
        String got;
        try {
            got = "answered " + call.answer();
        } catch (RuntimeException e) {
            got = "threw " + e.getClass().getName();
            if (e.getClass() == want) {
                return;
            }
        }
        wrong++;
        System.out.println(what + " " + got + ", due is " + want.getName());
    }

    void end() {
        System.out.println(calls + " answers looked at, " + wrong + " not as due");
        if (wrong != 0) {
            System.exit(1);
        }
    }

    /** Feeds a text, filled up with blanks. */
    static void feed(BothSides x, String text) {
        for (int from = 0; from < text.length(); from += 20) {
            int[] v = new int[5];
            for (int k = 0; k < 20; k++) {
                int c = from + k < text.length() ? text.charAt(from + k) : ' ';
                v[k / 4] = v[k / 4] << 8 | c & 255;
            }
            x.feed(v[0], v[1], v[2], v[3], v[4]);
        }
    }

    static int draw(BothSides x, String text) {
        feed(x, text);
        return x.drawing(text.length());
    }

    static BothSides drawn(String text) {
        BothSides x = new BothSides();
        draw(x, text);
        return x;
    }

    static BothSides begun(String text, int hole, boolean over) {
        BothSides x = drawn(text);
        x.begin(hole, 0, over);
        return x;
    }

    /** Sews by WAYS, each a digit; how many could be. */
    static int sew(BothSides x, String ways) {
        for (int k = 0; k < ways.length(); k++) {
            if (x.stitch(ways.charAt(k) - '0') != 0) {
                return k;
            }
        }
        return ways.length();
    }

    /** Each LINE is worked on one face by a THREAD of its own, which is cut. */
    static void work(BothSides x, boolean over, int... lines) {
        for (int line : lines) {
            int from = x.line(line, 0);
            x.begin(from, x.line(line, 2), over);
            for (int way = 0; way < 8; way++) {
                if (x.lineAt(from, way) == line) {
                    x.stitch(way);
                }
            }
            x.cut();
        }
    }

    /** A TRAY of a sort with these numbers. */
    static void lay(BothSides x, int tray, int sort, long... row) {
        x.tray(tray, sort, row.length);
        for (int k = 0; k < row.length; k++) {
            x.write(tray, k, row[k]);
        }
    }

    static String working(BothSides x) {
        StringBuilder row = new StringBuilder();
        int many = x.working(BothSides.NONE);
        if (many == BothSides.NONE) {
            return "none";
        }
        for (int k = 0; k < many; k++) {
            row.append(x.working(k));
        }
        return row.toString();
    }

    void due(String what, String got, String want) {
        calls++;
        if (!got.equals(want)) {
            wrong++;
            System.out.println(what + " answered " + got + ", due is " + want);
        }
    }
}
