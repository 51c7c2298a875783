import java.util.ArrayList;
import java.util.Arrays;
import java.util.HashMap;
import java.util.HashSet;
import java.util.List;
import java.util.Map;
import java.util.NoSuchElementException;
import java.util.Set;
import java.util.TreeSet;
import java.util.regex.Matcher;
import java.util.regex.Pattern;

/** The document once more, slow and plain: all that can be tried is tried. For drawings of few LINES. */
final class Model {
    static final List<String> WAYS = List.of("east", "northeast", "north", "northwest",
        "west", "southwest", "south", "southeast");
    static final int[][] BY = {{1, 0}, {1, 1}, {0, 1}, {-1, 1}, {-1, 0}, {-1, -1}, {0, -1}, {1, -1}};

    record Line(int from, int to, int ink) { }

    record Token(String text, int place) { }

    /** One STITCH: a LINE and a face. */
    record Face(int line, boolean over) { }

    /** A statement; blocks have others in them. */
    record Stmt(String word, int a, int b, int place, List<Stmt> in) { }

    static final class Fault extends Exception {
        private static final long serialVersionUID = 1;
        final int kind;
        final int place;

        Fault(int kind, int place) {
            this.kind = kind;
            this.place = place;
        }
    }

    /** All that an IMAGE holds. */
    static final class State {
        List<Line> lines = new ArrayList<>();
        TreeSet<Integer> knots = new TreeSet<>();
        Set<Face> worked = new HashSet<>();
        boolean thread = false;
        int ink;
        int began;
        boolean firstOver;
        List<Integer> ways = new ArrayList<>();
        int cuts = 0;

        State copy() {
            State s = new State();
            s.lines = new ArrayList<>(lines);
            s.knots = new TreeSet<>(knots);
            s.worked = new HashSet<>(worked);
            s.thread = thread;
            s.ink = ink;
            s.began = began;
            s.firstOver = firstOver;
            s.ways = new ArrayList<>(ways);
            s.cuts = cuts;
            return s;
        }
    }

    final StringBuilder tape = new StringBuilder();
    int fault = 0;
    int place = -1;
    State s = new State();
    final State[] images = new State[3];
    final long[][] trays = new long[4][];
    final int[] sorts = new int[4];

    // ---- the text

    private List<Token> tokens;
    private int at;
    private int end;

    int feed(int... v) {
        if (tape.length() + 20 > 700) {
            return -1;
        }
        for (int k : v) {
            for (int b = 3; b >= 0; b--) {
                tape.append((char) (k >> 8 * b & 255));
            }
        }
        return tape.length();
    }

    int drawing(int n) {
        if (n < 0 || n > tape.length()) {
            throw new IllegalArgumentException();
        }
        String text = tape.substring(0, n);
        tape.setLength(0);
        try {
            State drawn = new State();
            new Sheet(drawn).run(parse(text), List.of());
            s = drawn;
            fault = 0;
            place = -1;
            return s.lines.size();
        } catch (Fault f) {
            fault = f.kind;
            place = f.place;
            return -10 - fault;
        }
    }

    private List<Stmt> parse(String text) throws Fault {
        tokens = new ArrayList<>();
        at = 0;
        end = text.length();
        Matcher m = Pattern.compile("[a-z]+|[0-9]+|[^ \\n]", Pattern.DOTALL).matcher(text);
        while (m.find()) {
            tokens.add(new Token(m.group(), m.start()));
        }
        List<Stmt> all = statements(0);
        if (at < tokens.size()) {
            throw new Fault(2, look().place);
        }
        return all;
    }

    private Token look() throws Fault {
        if (at >= tokens.size()) {
            return new Token("", end);
        }
        Token t = tokens.get(at);
        if (!t.text.matches("[a-z]+|[0-9]{1,3}|[;()]")) {
            throw new Fault(1, t.place);
        }
        return t;
    }

    private Token want(String pattern) throws Fault {
        Token t = look();
        if (!t.text.matches(pattern)) {
            throw new Fault(2, t.place);
        }
        at++;
        return t;
    }

    private int number(int least, int most) throws Fault {
        Token t = want("[0-9]+");
        int n = Integer.parseInt(t.text);
        if (n < least || n > most) {
            throw new Fault(3, t.place);
        }
        return n;
    }

    private List<Stmt> statements(int depth) throws Fault {
        List<Stmt> row = new ArrayList<>();
        while (look().text.matches("[a-z]+")) {
            Token t = look();
            String w = want("at|ink|knot|times|turn|mirror|" + String.join("|", WAYS)).text;
            int a = 0;
            int b = 0;
            List<Stmt> in = null;
            if (w.equals("at") || w.equals("knot")) {
                a = number(0, 11);
                b = number(0, 11);
            } else if (w.equals("ink")) {
                a = number(0, 3);
            } else if (w.equals("times")) {
                a = number(1, 12);
            } else if (WAYS.contains(w)) {
                a = number(1, 11);
            }
            if (w.matches("times|turn|mirror")) {
                Token open = want("\\(");
                if (depth == 5) {
                    throw new Fault(4, open.place);
                }
                in = statements(depth + 1);
                want("\\)");
            }
            want(";");
            row.add(new Stmt(w, a, b, t.place, in));
        }
        return row;
    }

    private static final class Sheet {
        final State s;
        int x = 0;
        int y = 0;
        int ink = 0;
        int steps = 0;

        Sheet(State s) {
            this.s = s;
        }

        void run(List<Stmt> row, List<String> around) throws Fault {
            for (Stmt t : row) {
                if (t.word.equals("at")) {
                    x = t.a;
                    y = t.b;
                } else if (t.word.equals("ink")) {
                    ink = t.a;
                } else if (t.word.equals("knot")) {
                    s.knots.add(t.a + 12 * t.b);
                } else if (t.in == null) {
                    draw(t, around);
                } else if (t.word.equals("times")) {
                    for (int k = 0; k < t.a; k++) {
                        run(t.in, around);
                    }
                } else {
                    List<String> inner = new ArrayList<>(List.of(t.word));
                    inner.addAll(around);
                    run(t.in, inner);
                }
            }
        }

        private void draw(Stmt t, List<String> around) throws Fault {
            int way = WAYS.indexOf(t.word);
            for (String change : around) {
                way = (change.equals("turn") ? way + 2 : 8 - way) % 8;
            }
            for (int k = 0; k < t.a; k++) {
                int x2 = x + BY[way][0];
                int y2 = y + BY[way][1];
                if (x2 < 0 || x2 > 11 || y2 < 0 || y2 > 11) {
                    throw new Fault(5, t.place);
                }
                int from = x + 12 * y;
                int to = x2 + 12 * y2;
                boolean fresh = find(s, from, to) == -1;
                if (fresh && s.lines.size() == 60) {
                    throw new Fault(6, t.place);
                }
                if (++steps > 1000) {
                    throw new Fault(7, t.place);
                }
                if (fresh) {
                    s.lines.add(new Line(from, to, ink));
                }
                x = x2;
                y = y2;
            }
        }
    }

    static int find(State s, int one, int other) {
        for (int k = 0; k < s.lines.size(); k++) {
            Line l = s.lines.get(k);
            if (l.from == one && l.to == other || l.from == other && l.to == one) {
                return k;
            }
        }
        return -1;
    }

    static int go(int hole, int way) {
        int x = hole % 12 + BY[way][0];
        int y = hole / 12 + BY[way][1];
        return x < 0 || x > 11 || y < 0 || y > 11 ? -1 : x + 12 * y;
    }

    static int along(State s, int hole, int way) {
        int to = go(hole, way);
        return to == -1 ? -1 : find(s, hole, to);
    }

    private static void range(int v, int many, boolean element) {
        if (v < 0 || v >= many) {
            throw element ? new NoSuchElementException() : new IllegalArgumentException();
        }
    }

    private void needThread() {
        if (!s.thread) {
            throw new IllegalStateException();
        }
    }

    int fault(int what) {
        return what == 0 ? fault : what == 1 ? place : -1;
    }

    int line(int line, int what) {
        range(line, s.lines.size(), true);
        range(what, 4, false);
        Line l = s.lines.get(line);
        int faces = (s.worked.contains(new Face(line, true)) ? 1 : 0) + (s.worked.contains(new Face(line, false)) ? 2 : 0);
        return new int[] {l.from, l.to, l.ink, faces}[what];
    }

    int lineAt(int hole, int way) {
        range(hole, 144, true);
        range(way, 8, true);
        return along(s, hole, way);
    }

    int ends(int hole, int ink) {
        range(hole, 144, true);
        range(ink + 1, 5, false);
        int sum = 0;
        for (Line l : s.lines) {
            sum += (ink == -1 || l.ink == ink) && (l.from == hole || l.to == hole) ? 1 : 0;
        }
        return sum;
    }

    int knot(int k) {
        return k < 0 || k >= s.knots.size() ? -1 : new ArrayList<>(s.knots).get(k);
    }

    /** Each LINE's part's first LINE. */
    private int[] firsts() {
        int[] first = new int[s.lines.size()];
        for (int k = 0; k < first.length; k++) {
            first[k] = k;
        }
        for (int round = 0; round < first.length; round++) {
            for (int i = 0; i < first.length; i++) {
                for (int j = 0; j < first.length; j++) {
                    Line a = s.lines.get(i);
                    Line b = s.lines.get(j);
                    if (a.ink == b.ink && (a.from == b.from || a.from == b.to || a.to == b.from || a.to == b.to)) {
                        first[i] = Math.min(first[i], first[j]);
                    }
                }
            }
        }
        return first;
    }

    int parts(int ink) {
        range(ink, 4, false);
        int[] first = firsts();
        int sum = 0;
        for (int k = 0; k < first.length; k++) {
            sum += first[k] == k && s.lines.get(k).ink == ink ? 1 : 0;
        }
        return sum;
    }

    int partOf(int line) {
        range(line, s.lines.size(), true);
        return firsts()[line];
    }

    int length(int ink) {
        range(ink + 1, 5, false);
        int sum = 0;
        for (Line l : s.lines) {
            boolean slant = l.from % 12 != l.to % 12 && l.from / 12 != l.to / 12;
            sum += ink == -1 || l.ink == ink ? slant ? 28 : 20 : 0;
        }
        return sum;
    }

    int crossings(boolean unlike) {
        int sum = 0;
        for (int x = 0; x < 11; x++) {
            for (int y = 0; y < 11; y++) {
                int a = find(s, x + 12 * y, x + 1 + 12 * (y + 1));
                int b = find(s, x + 1 + 12 * y, x + 12 * (y + 1));
                sum += a != -1 && b != -1 && (!unlike || s.lines.get(a).ink != s.lines.get(b).ink) ? 1 : 0;
            }
        }
        return sum;
    }

    /** Tries every push. */
    boolean alike(int by) {
        range(by, 4, false);
        for (int px = -30; px <= 30; px++) {
            for (int py = -30; py <= 30; py++) {
                boolean all = true;
                for (Line l : s.lines) {
                    int a = turned(l.from, by, px, py);
                    int b = turned(l.to, by, px, py);
                    int k = a == -1 || b == -1 ? -1 : find(s, a, b);
                    if (k == -1 || s.lines.get(k).ink != l.ink) {
                        all = false;
                        break;
                    }
                }
                if (all) {
                    return true;
                }
            }
        }
        return false;
    }

    private static int turned(int hole, int by, int px, int py) {
        int x = hole % 12;
        int y = hole / 12;
        int x2 = (by == 0 ? -y : by == 3 ? x : -x) + px;
        int y2 = (by == 0 ? x : by == 2 ? y : -y) + py;
        return x2 < 0 || x2 > 11 || y2 < 0 || y2 > 11 ? -1 : x2 + 12 * y2;
    }

    // ---- the thread

    void begin(int hole, int ink, boolean over) {
        range(hole, 144, true);
        range(ink, 4, false);
        s.cuts += s.thread ? 1 : 0;
        s.thread = true;
        s.ink = ink;
        s.began = hole;
        s.firstOver = over;
        s.ways = new ArrayList<>();
    }

    int cut() {
        needThread();
        s.thread = false;
        s.cuts++;
        return s.ways.size();
    }

    private static int hole(State s) {
        int hole = s.began;
        for (int way : s.ways) {
            hole = go(hole, way);
        }
        return hole;
    }

    private static boolean next(State s) {
        return s.ways.size() % 2 == 0 ? s.firstOver : !s.firstOver;
    }

    private static int may(State s, int way) {
        if (!s.thread) {
            return 1;
        }
        int line = along(s, hole(s), way);
        if (line == -1 || s.lines.get(line).ink != s.ink) {
            return 2;
        }
        return s.worked.contains(new Face(line, next(s))) ? 3 : 0;
    }

    private static int stitch(State s, int way) {
        int bar = may(s, way);
        if (bar == 0) {
            s.worked.add(new Face(along(s, hole(s), way), next(s)));
            s.ways.add(way);
        }
        return bar;
    }

    int may(int way) {
        range(way, 8, true);
        return may(s, way);
    }

    int stitch(int way) {
        range(way, 8, true);
        return stitch(s, way);
    }

    /** The faces that the THREAD worked, in their order. */
    private static List<Face> faces(State s) {
        List<Face> row = new ArrayList<>();
        int hole = s.began;
        boolean over = s.firstOver;
        for (int way : s.ways) {
            row.add(new Face(along(s, hole, way), over));
            hole = go(hole, way);
            over = !over;
        }
        return row;
    }

    int unpick(int n) {
        needThread();
        range(n, s.ways.size() + 1, false);
        for (int k = 0; k < n; k++) {
            List<Face> row = faces(s);
            s.worked.remove(row.get(row.size() - 1));
            s.ways.remove(s.ways.size() - 1);
        }
        return s.ways.size();
    }

    int thread(int what) {
        needThread();
        range(what, 5, false);
        return new int[] {hole(s), next(s) ? 1 : 0, s.ways.size(), s.ink, s.began}[what];
    }

    int done(int k) {
        needThread();
        return k < 0 || k >= s.ways.size() ? -1 : s.ways.get(k);
    }

    int judge(int tray, int what) {
        range(tray, 4, true);
        needThread();
        if (trays[tray] == null) {
            throw new IllegalStateException();
        }
        range(what, 4, false);
        State t = s.copy();
        int k = 0;
        int by = 0;
        for (; k < trays[tray].length; k++) {
            long v = trays[tray][k];
            by = v < 0 || v > 7 ? 2 : stitch(t, (int) v);
            if (by != 0) {
                break;
            }
        }
        return new int[] {by == 0 ? -1 : k, by, hole(t), open(t, t.ink).size()}[what];
    }

    int perform(int tray) {
        range(tray, 4, true);
        needThread();
        if (trays[tray] == null) {
            throw new IllegalStateException();
        }
        int k = 0;
        while (k < trays[tray].length && trays[tray][k] >= 0 && trays[tray][k] <= 7 && stitch(s, (int) trays[tray][k]) == 0) {
            k++;
        }
        return k;
    }

    // ---- what is left

    private static Set<Face> open(State s, int ink) {
        Set<Face> open = new HashSet<>();
        for (int k = 0; k < s.lines.size(); k++) {
            if (s.lines.get(k).ink == ink) {
                open.add(new Face(k, true));
                open.add(new Face(k, false));
            }
        }
        open.removeAll(s.worked);
        return open;
    }

    int left() {
        needThread();
        return open(s, s.ink).size();
    }

    /** By all that is open, from a HOLE: how many ways, the first one, where they end. */
    final class Goings {
        final Map<Set<Face>, Map<Integer, Long>> known = new HashMap<>();
        final Set<Integer> endings = new TreeSet<>();

        long many(Set<Face> open, int hole, boolean over) {
            if (open.isEmpty()) {
                endings.add(hole);
                return 1;
            }
            Map<Integer, Long> by = known.computeIfAbsent(open, k -> new HashMap<>());
            Long sum = by.get(2 * hole + (over ? 1 : 0));
            if (sum == null) {
                sum = 0L;
                for (int way = 0; way < 8; way++) {
                    Face f = new Face(along(s, hole, way), over);
                    if (open.contains(f)) {
                        Set<Face> rest = new HashSet<>(open);
                        rest.remove(f);
                        sum += many(rest, go(hole, way), !over);
                    }
                }
                by.put(2 * hole + (over ? 1 : 0), sum);
            }
            return sum;
        }

        List<Integer> first(Set<Face> open, int hole, boolean over) {
            List<Integer> row = new ArrayList<>();
            while (!open.isEmpty()) {
                for (int way = 0; way < 8; way++) {
                    Face f = new Face(along(s, hole, way), over);
                    if (open.contains(f)) {
                        Set<Face> rest = new HashSet<>(open);
                        rest.remove(f);
                        if (many(rest, go(hole, way), !over) > 0) {
                            open = rest;
                            hole = go(hole, way);
                            over = !over;
                            row.add(way);
                            break;
                        }
                    }
                }
            }
            return row;
        }
    }

    private Goings goings = new Goings();
    private List<Line> goingsOf = List.of();

    /** What was tried holds as long as the LINES are the same. */
    private Goings goings() {
        if (!goingsOf.equals(s.lines)) {
            goings = new Goings();
            goingsOf = s.lines;
        }
        return goings;
    }

    private boolean endsWell() {
        return goings().many(open(s, s.ink), hole(s), next(s)) > 0;
    }

    int barred(int what) {
        needThread();
        range(what, 2, false);
        if (endsWell()) {
            return what == 0 ? 0 : -1;
        }
        Set<Face> open = open(s, s.ink);
        Set<Integer> near = new TreeSet<>(List.of(hole(s)));
        for (int round = 0; round < 144; round++) {
            for (Face f : open) {
                Line l = s.lines.get(f.line);
                if (near.contains(l.from) || near.contains(l.to)) {
                    near.add(l.from);
                    near.add(l.to);
                }
            }
        }
        for (int k = 0; k < s.lines.size(); k++) {
            if ((open.contains(new Face(k, true)) || open.contains(new Face(k, false))) && !near.contains(s.lines.get(k).from)) {
                return what == 0 ? 1 : k;
            }
        }
        int[] sum = new int[144];
        for (Face f : open) {
            sum[s.lines.get(f.line).from] += f.over ? 1 : -1;
            sum[s.lines.get(f.line).to] += f.over ? 1 : -1;
        }
        sum[hole(s)] += next(s) ? -1 : 1;
        List<Integer> odd = new ArrayList<>();
        for (int h = 0; h < 144; h++) {
            if (sum[h] != 0) {
                odd.add(h);
            }
        }
        int first = odd.get(0);
        return what == 0 ? 2 : Math.abs(sum[first]) != 1 ? first : odd.get(1);
    }

    int ending() {
        needThread();
        Goings g = new Goings();
        if (g.many(open(s, s.ink), hole(s), next(s)) == 0) {
            return -1;
        }
        if (g.endings.size() != 1) {
            throw new RuntimeException("the document's one ENDING isn't one");
        }
        return g.endings.iterator().next();
    }

    private List<Integer> firstWorking() {
        return endsWell() ? goings().first(open(s, s.ink), hole(s), next(s)) : null;
    }

    int working(int k) {
        needThread();
        List<Integer> row = firstWorking();
        if (row == null) {
            return -1;
        }
        return k == -1 ? row.size() : k < 0 || k >= row.size() ? -1 : row.get(k);
    }

    int work() {
        needThread();
        List<Integer> row = firstWorking();
        if (row == null) {
            return -1;
        }
        for (int way : row) {
            stitch(s, way);
        }
        return row.size();
    }

    int ways() {
        needThread();
        if (left() > 16) {
            return -2;
        }
        return (int) goings().many(open(s, s.ink), hole(s), next(s));
    }

    int unpicked(boolean both, int what) {
        needThread();
        range(what, 3, false);
        int n = s.ways.size();
        List<Face> row = faces(s);
        for (int sum = 0; sum <= n; sum++) {
            for (int i = 0; i <= (both ? sum : 0); i++) {
                int j = sum - i;
                if (sum == n && i > 0) {
                    continue;
                }
                Set<Face> open = open(s, s.ink);
                open.addAll(row.subList(0, i));
                open.addAll(row.subList(n - j, n));
                int hole = s.began;
                for (int k = 0; k < n - j; k++) {
                    hole = go(hole, s.ways.get(k));
                }
                boolean over = (n - j) % 2 == 0 ? s.firstOver : !s.firstOver;
                if (goings().many(open, hole, over) > 0) {
                    return new int[] {sum, i, j}[what];
                }
            }
        }
        return -1;
    }

    int places(int ink) {
        range(ink, 4, false);
        int sum = 0;
        Goings g = goings();
        for (int h = 0; h < 144; h++) {
            sum += g.many(open(s, ink), h, true) > 0 ? 1 : 0;
            sum += g.many(open(s, ink), h, false) > 0 ? 1 : 0;
        }
        return sum;
    }

    int threads(int ink, int length) {
        range(ink, 4, false);
        range(length - 1, 20, false);
        List<Integer> mine = new ArrayList<>();
        for (int k = 0; k < s.lines.size(); k++) {
            if (s.lines.get(k).ink == ink) {
                mine.add(k);
            }
        }
        if (mine.size() > 6) {
            return -2;
        }
        boolean[] can = new boolean[1 << 2 * mine.size()];
        Set<String> been = new HashSet<>();
        for (int h = 0; h < 144; h++) {
            if (s.knots.isEmpty() || s.knots.contains(h)) {
                walk(mine, can, been, 0, h, true, length);
                walk(mine, can, been, 0, h, false, length);
            }
        }
        int[] few = new int[can.length];
        Arrays.fill(few, 99);
        few[0] = 0;
        for (int set = 1; set < few.length; set++) {
            for (int sub = set; sub > 0; sub = sub - 1 & set) {
                if (can[sub]) {
                    few[set] = Math.min(few[set], few[set ^ sub] + 1);
                }
            }
        }
        return few[few.length - 1] == 99 ? -1 : few[few.length - 1];
    }

    private void walk(List<Integer> mine, boolean[] can, Set<String> been, int set, int hole, boolean over, int more) {
        if (!been.add(set + " " + hole + " " + over)) {
            return;
        }
        can[set] |= s.knots.isEmpty() || s.knots.contains(hole);
        for (int way = 0; way < 8 && more > 0; way++) {
            int k = mine.indexOf(along(s, hole, way));
            int bit = 1 << 2 * k + (over ? 1 : 0);
            if (k >= 0 && (set & bit) == 0) {
                walk(mine, can, been, set | bit, go(hole, way), !over, more - 1);
            }
        }
    }

    // ---- faces

    int seen(boolean over) {
        int sum = 0;
        for (Face f : s.worked) {
            sum += f.over == over ? 1 : 0;
        }
        return sum;
    }

    private static boolean same(Set<Face> worked) {
        for (Face f : worked) {
            if (!worked.contains(new Face(f.line, !f.over))) {
                return false;
            }
        }
        return true;
    }

    boolean same() {
        return same(s.worked);
    }

    int sameAt(int k) {
        needThread();
        List<Face> row = faces(s);
        List<Integer> when = new ArrayList<>();
        for (int n = 0; n <= row.size(); n++) {
            Set<Face> worked = new HashSet<>(s.worked);
            worked.removeAll(row.subList(n, row.size()));
            if (same(worked)) {
                when.add(n);
            }
        }
        return k < 0 || k >= when.size() ? -1 : when.get(k);
    }

    int unlike(int hole) {
        range(hole, 144, true);
        int sum = 0;
        for (int k = 0; k < s.lines.size(); k++) {
            Line l = s.lines.get(k);
            boolean shows = s.worked.contains(new Face(k, true)) != s.worked.contains(new Face(k, false));
            sum += shows && (l.from == hole || l.to == hole) ? 1 : 0;
        }
        return sum;
    }

    // ---- trays, images

    void tray(int tray, int sort, int many) {
        range(tray, 4, true);
        range(sort, 4, false);
        range(many, 41, false);
        trays[tray] = new long[many];
        sorts[tray] = sort;
    }

    long write(int tray, int at, long v) {
        range(tray, 4, true);
        if (trays[tray] == null) {
            throw new IllegalStateException();
        }
        if (at < 0 || at >= trays[tray].length) {
            throw new IndexOutOfBoundsException();
        }
        int shift = new int[] {56, 48, 32, 0}[sorts[tray]];
        trays[tray][at] = v << shift >> shift;
        return trays[tray][at];
    }

    void image(int i) {
        range(i, 3, true);
        images[i] = s.copy();
    }

    void restore(int i) {
        range(i, 3, true);
        if (images[i] == null) {
            throw new IllegalStateException();
        }
        s = images[i].copy();
    }

    int count(int what) {
        int both = 0;
        for (Face f : s.worked) {
            both += f.over && s.worked.contains(new Face(f.line, false)) ? 1 : 0;
        }
        int[] counts = {s.lines.size(), s.knots.size(), s.cuts, both, tape.length()};
        return what < 0 || what > 4 ? -1 : counts[what];
    }
}
