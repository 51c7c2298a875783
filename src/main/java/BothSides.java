import java.util.Arrays;
import java.util.NoSuchElementException;

/** Drawings on a cloth, worked in thread so that both faces come out alike. */
public final class BothSides {
    public static final int NONE = -1;
    public static final int SPENT = -2;

    private static final int SIDE = 12;
    private static final int HOLES = 144;
    private static final int WAYS = 8;
    private static final int INKS = 4;
    private static final int MOST_LINES = 60;
    private static final int MOST_STITCHES = 120;
    private static final int MOST_STEPS = 1000;
    private static final int MOST_BYTES = 700;
    private static final int MOST_OPEN = 5;
    private static final int MOST_COUNTED = 16;
    private static final int MOST_SHARED = 6;
    private static final int MOST_LENGTH = 20;
    private static final int TRAYS = 4;
    private static final int MOST_NUMBERS = 40;
    private static final int IMAGES = 3;

    /** How far each WAY leads east and north. */
    private static final int[] EAST_BY = {1, 1, 0, -1, -1, -1, 0, 1};
    private static final int[] NORTH_BY = {0, 1, 1, 1, 0, -1, -1, -1};

    /** The words of a TEXT: 0 to 7 are the WAYS; from TIMES on they open a block. */
    private static final int WORDS = 14;
    private static final int AT = 8;
    private static final int INK = 9;
    private static final int KNOT = 10;
    private static final int TIMES = 11;
    private static final int TURN = 12;

    private int fault;
    private int faultPlace;
    private final Drawing drawing;
    private final Drawing sketch;
    private final Reader reader;
    private final Pen pen;
    private final Needle needle;
    private final Needle trial;
    private final Rest rest;
    private final Unpicking unpicking;
    private final Sharing sharing;
    private final Tray[] trays = new Tray[TRAYS];
    private final Image[] images = new Image[IMAGES];

    public BothSides() {
        faultPlace = NONE;
        drawing = new Drawing();
        sketch = new Drawing();
        Script script = new Script();
        reader = new Reader(script);
        pen = new Pen(script, sketch);
        needle = new Needle(drawing);
        trial = new Needle(drawing);
        rest = new Rest(drawing);
        unpicking = new Unpicking(drawing, rest);
        sharing = new Sharing(drawing);
        for (int k = 0; k < trays.length; k++) {
            trays[k] = new Tray();
        }
        for (int k = 0; k < images.length; k++) {
            images[k] = new Image();
        }
    }

    // ---- the drawing

    public int feed(int a, int b, int c, int d, int e) {
        if (reader.fed > MOST_BYTES - 20) {
            return NONE;
        }
        reader.take(a);
        reader.take(b);
        reader.take(c);
        reader.take(d);
        reader.take(e);
        return reader.fed;
    }

    public int drawing(int n) throws IllegalArgumentException {
        if (n < 0 || n > reader.fed) {
            throw new IllegalArgumentException("not so many bytes on the tape");
        }
        reader.read(n);
        fault = reader.fault;
        faultPlace = reader.faultPlace;
        if (fault == 0) {
            pen.draw();
            fault = pen.fault;
            faultPlace = pen.faultPlace;
        }
        if (fault != 0) {
            return -10 - fault;
        }
        drawing.copy(sketch);
        needle.clear();
        return drawing.lines;
    }

    public int fault(int what) {
        switch (what) {
            case 0:
                return fault;
            case 1:
                return faultPlace;
            default:
                return NONE;
        }
    }

    public int line(int line, int what) throws NoSuchElementException, IllegalArgumentException {
        checkLine(line);
        switch (what) {
            case 0:
                return drawing.fromOf(line);
            case 1:
                return drawing.toOf(line);
            case 2:
                return drawing.inkOf(line);
            case 3:
                return needle.facesOf(line);
            default:
                throw new IllegalArgumentException("what of a line is 0 to 3");
        }
    }

    public int lineAt(int hole, int way) throws NoSuchElementException {
        checkHole(hole);
        checkWay(way);
        return drawing.lineBy(hole, way);
    }

    public int ends(int hole, int ink) throws NoSuchElementException, IllegalArgumentException {
        checkHole(hole);
        checkInkOrAll(ink);
        return Long.bitCount(drawing.linesAt(hole) & drawing.linesOf(ink));
    }

    public int knot(int k) {
        return drawing.knotAt(k);
    }

    public int parts(int ink) throws IllegalArgumentException {
        checkInk(ink);
        return drawing.partsOf(ink);
    }

    public int partOf(int line) throws NoSuchElementException {
        checkLine(line);
        long lines = drawing.linesOf(drawing.inkOf(line));
        return lowest(drawing.together(lines, drawing.fromOf(line)));
    }

    public int length(int ink) throws IllegalArgumentException {
        checkInkOrAll(ink);
        return drawing.threadFor(ink);
    }

    public int crossings(boolean unlike) {
        return drawing.crossed(unlike);
    }

    public boolean alike(int by) throws IllegalArgumentException {
        if (by < 0 || by > 3) {
            throw new IllegalArgumentException("alike by 0 to 3");
        }
        return drawing.likeItself(by);
    }

    // ---- the thread

    public void begin(int hole, int ink, boolean over) throws NoSuchElementException, IllegalArgumentException {
        checkHole(hole);
        checkInk(ink);
        needle.start(hole, ink, over);
    }

    public int cut() throws IllegalStateException {
        checkThread();
        needle.snip();
        return needle.stitches;
    }

    public int may(int way) throws NoSuchElementException {
        checkWay(way);
        return needle.hindrance(way);
    }

    public int stitch(int way) throws NoSuchElementException {
        checkWay(way);
        return needle.go(way);
    }

    public int unpick(int n) throws IllegalStateException, IllegalArgumentException {
        checkThread();
        if (n < 0 || n > needle.stitches) {
            throw new IllegalArgumentException("the thread has not so many stitches");
        }
        for (int k = 0; k < n; k++) {
            needle.goBack();
        }
        return needle.stitches;
    }

    public int thread(int what) throws IllegalStateException, IllegalArgumentException {
        checkThread();
        switch (what) {
            case 0:
                return needle.hole;
            case 1:
                return needle.nextOver() ? 1 : 0;
            case 2:
                return needle.stitches;
            case 3:
                return needle.ink;
            case 4:
                return needle.began;
            default:
                throw new IllegalArgumentException("what of a thread is 0 to 4");
        }
    }

    public int done(int k) throws IllegalStateException {
        checkThread();
        return needle.wayOf(k);
    }

    // ---- judged

    public int judge(int tray, int what) throws NoSuchElementException, IllegalStateException, IllegalArgumentException {
        Tray told = checkTray(tray);
        checkThread();
        checkThere(told);
        if (what < 0 || what > 3) {
            throw new IllegalArgumentException("what of told stitches is 0 to 3");
        }
        trial.copy(needle);
        int could = goBy(trial, told);
        switch (what) {
            case 0:
                return could < told.many ? could : NONE;
            case 1:
                return could < told.many ? trial.hindrance(told.wayAt(could)) : 0;
            case 2:
                return trial.hole;
            default:
                return trial.stillOpen();
        }
    }

    public int perform(int tray) throws NoSuchElementException, IllegalStateException {
        Tray told = checkTray(tray);
        checkThread();
        checkThere(told);
        return goBy(needle, told);
    }

    /** The STITCHES that a TRAY tells are done, till one can't be: how many were. */
    private static int goBy(Needle needle, Tray told) {
        for (int k = 0; k < told.many; k++) {
            if (needle.go(told.wayAt(k)) != 0) {
                return k;
            }
        }
        return told.many;
    }

    // ---- what is left

    public int left() throws IllegalStateException {
        checkThread();
        return needle.stillOpen();
    }

    public int barred(int what) throws IllegalStateException, IllegalArgumentException {
        checkThread();
        if (what != 0 && what != 1) {
            throw new IllegalArgumentException("what of a bar is 0 or 1");
        }
        rest.behind(needle);
        rest.look();
        return what == 0 ? rest.bar : rest.barAt;
    }

    public int ending() throws IllegalStateException {
        checkThread();
        rest.behind(needle);
        rest.look();
        return rest.end;
    }

    public int working(int k) throws IllegalStateException {
        checkThread();
        rest.behind(needle);
        int many = rest.firstWorking();
        return k == NONE ? many : rest.wayOf(k);
    }

    public int work() throws IllegalStateException {
        checkThread();
        rest.behind(needle);
        int many = rest.firstWorking();
        for (int k = 0; k < many; k++) {
            needle.go(rest.wayOf(k));
        }
        return many;
    }

    public int ways() throws IllegalStateException {
        checkThread();
        rest.behind(needle);
        return rest.countWorkings();
    }

    public int unpicked(boolean both, int what) throws IllegalStateException, IllegalArgumentException {
        checkThread();
        if (what < 0 || what > 2) {
            throw new IllegalArgumentException("what of the unpicked is 0 to 2");
        }
        unpicking.find(needle, both);
        if (unpicking.first == NONE || what == 1) {
            return unpicking.first;
        }
        return what == 0 ? unpicking.first + unpicking.last : unpicking.last;
    }

    public int places(int ink) throws IllegalArgumentException {
        checkInk(ink);
        return rest.countPlaces(needle, ink);
    }

    public int threads(int ink, int length) throws IllegalArgumentException {
        checkInk(ink);
        if (length < 1 || length > MOST_LENGTH) {
            throw new IllegalArgumentException("a length is 1 to 20");
        }
        return sharing.fewestOf(ink, length);
    }

    // ---- faces

    public int seen(boolean over) {
        return Long.bitCount(over ? needle.over : needle.under);
    }

    public boolean same() {
        return needle.over == needle.under;
    }

    public int sameAt(int k) throws IllegalStateException {
        checkThread();
        trial.copy(needle);
        for (int n = trial.stitches; n > 0; n--) {
            trial.goBack();
        }
        return kthSame(k);
    }

    /** Goes along the THREAD anew, from its beginning in the trial. */
    private int kthSame(int k) {
        int were = 0;
        for (int n = 0; n <= needle.stitches; n++) {
            if (trial.over == trial.under) {
                if (were == k) {
                    return n;
                }
                were++;
            }
            trial.go(needle.wayOf(n));
        }
        return NONE;
    }

    public int unlike(int hole) throws NoSuchElementException {
        checkHole(hole);
        return Long.bitCount(drawing.linesAt(hole) & (needle.over ^ needle.under));
    }

    // ---- trays, images

    public void tray(int tray, int sort, int many) throws NoSuchElementException, IllegalArgumentException {
        Tray row = checkTray(tray);
        if (sort < 0 || sort > 3 || many < 0 || many > MOST_NUMBERS) {
            throw new IllegalArgumentException("no such sort, or not so many");
        }
        row.lay(sort, many);
    }

    public long write(int tray, int place, long v) throws NoSuchElementException, IllegalStateException, IndexOutOfBoundsException {
        Tray row = checkTray(tray);
        checkThere(row);
        if (place < 0 || place >= row.many) {
            throw new IndexOutOfBoundsException("no such place in the tray");
        }
        return row.put(place, v);
    }

    public void image(int i) throws NoSuchElementException {
        checkImage(i).make(drawing, needle);
    }

    public void restore(int i) throws NoSuchElementException, IllegalStateException {
        Image image = checkImage(i);
        if (!image.made) {
            throw new IllegalStateException("no such image was made");
        }
        drawing.copy(image.drawing);
        needle.copy(image.needle);
    }

    public int count(int what) {
        switch (what) {
            case 0:
                return drawing.lines;
            case 1:
                return drawing.knots;
            case 2:
                return needle.cuts;
            case 3:
                return Long.bitCount(needle.over & needle.under);
            case 4:
                return reader.fed;
            default:
                return NONE;
        }
    }

    // ---- what calls look at first

    private static void checkHole(int hole) {
        if (hole < 0 || hole >= HOLES) {
            throw new NoSuchElementException("no such hole");
        }
    }

    private static void checkWay(int way) {
        if (way < 0 || way >= WAYS) {
            throw new NoSuchElementException("no such way");
        }
    }

    private void checkLine(int line) {
        if (line < 0 || line >= drawing.lines) {
            throw new NoSuchElementException("no such line");
        }
    }

    private static void checkInk(int ink) {
        if (ink < 0 || ink >= INKS) {
            throw new IllegalArgumentException("no such ink");
        }
    }

    private static void checkInkOrAll(int ink) {
        if (ink != NONE) {
            checkInk(ink);
        }
    }

    private void checkThread() {
        if (!needle.there) {
            throw new IllegalStateException("there is no thread");
        }
    }

    private Tray checkTray(int tray) {
        if (tray < 0 || tray >= trays.length) {
            throw new NoSuchElementException("no such tray");
        }
        return trays[tray];
    }

    private static void checkThere(Tray tray) {
        if (!tray.there) {
            throw new IllegalStateException("the tray is missing");
        }
    }

    private Image checkImage(int i) {
        if (i < 0 || i >= images.length) {
            throw new NoSuchElementException("no such image");
        }
        return images[i];
    }

    /** The place of the lowest bit that is set; 64 without one. */
    private static int lowest(long bits) {
        return Long.bitCount((bits & -bits) - 1);
    }

    /** The HOLE one step of a WAY from a HOLE; NONE off the CLOTH. */
    private static int step(int hole, int way) {
        if (hole < 0 || hole >= HOLES || way < 0 || way >= EAST_BY.length || way >= NORTH_BY.length) {
            return NONE;
        }
        return holeAt(hole % SIDE + EAST_BY[way], hole / SIDE + NORTH_BY[way]);
    }

    private static int holeAt(int x, int y) {
        return x < 0 || x >= SIDE || y < 0 || y >= SIDE ? NONE : SIDE * y + x;
    }

    /** LINES and KNOTS; sets of LINES are bits of a long. */
    private static final class Drawing {
        int lines;
        int knots;
        private final int[] from = new int[MOST_LINES];
        private final int[] to = new int[MOST_LINES];
        private final int[] inks = new int[MOST_LINES];
        /** For HOLE and WAY one more than the LINE, so that an empty row tells of none. */
        private final int[] byWay = new int[HOLES * WAYS];
        private final long[] atHole = new long[HOLES];
        private final long[] ofInk = new long[INKS];
        private final int[] knotted = new int[HOLES];

        void clear() {
            lines = 0;
            knots = 0;
            Arrays.fill(byWay, 0);
            Arrays.fill(atHole, 0L);
            Arrays.fill(ofInk, 0L);
            Arrays.fill(knotted, 0);
        }

        void copy(Drawing other) {
            lines = other.lines;
            knots = other.knots;
            System.arraycopy(other.from, 0, from, 0, MOST_LINES);
            System.arraycopy(other.to, 0, to, 0, MOST_LINES);
            System.arraycopy(other.inks, 0, inks, 0, MOST_LINES);
            System.arraycopy(other.byWay, 0, byWay, 0, HOLES * WAYS);
            System.arraycopy(other.atHole, 0, atHole, 0, HOLES);
            System.arraycopy(other.ofInk, 0, ofInk, 0, INKS);
            System.arraycopy(other.knotted, 0, knotted, 0, HOLES);
        }

        /** A new LINE from a HOLE by a WAY to its end, where there is none yet. */
        void draw(int hole, int way, int end, int ink) {
            if (ink < 0 || ink >= ofInk.length || lines < 0 || lines >= MOST_LINES) {
                return;
            }
            from[lines] = hole;
            to[lines] = end;
            inks[lines] = ink;
            ofInk[ink] |= 1L << lines;
            lead(hole, way);
            lead(end, (way + 4) & 7);
            lines++;
        }

        private void lead(int hole, int way) {
            int place = hole * WAYS + way;
            if (hole >= 0 && hole < atHole.length && place >= 0 && place < byWay.length) {
                byWay[place] = lines + 1;
                atHole[hole] |= 1L << lines;
            }
        }

        void tie(int hole) {
            if (hole >= 0 && hole < knotted.length && knotted[hole] == 0) {
                knotted[hole] = 1;
                knots++;
            }
        }

        int fromOf(int line) {
            return line >= 0 && line < from.length ? from[line] : 0;
        }

        int toOf(int line) {
            return line >= 0 && line < to.length ? to[line] : 0;
        }

        int inkOf(int line) {
            return line >= 0 && line < inks.length ? inks[line] : 0;
        }

        /** The HOLE at the other end of a LINE. */
        int otherEnd(int line, int hole) {
            return fromOf(line) == hole ? toOf(line) : fromOf(line);
        }

        int lineBy(int hole, int way) {
            if (hole < 0 || hole >= HOLES || way < 0 || way >= WAYS) {
                return NONE;
            }
            return byWay[hole * WAYS + way] - 1;
        }

        long linesAt(int hole) {
            return hole >= 0 && hole < atHole.length ? atHole[hole] : 0L;
        }

        /** LINES of an INK, or all for NONE. */
        long linesOf(int ink) {
            if (ink == NONE) {
                return (1L << lines) - 1;
            }
            return ink >= 0 && ink < ofInk.length ? ofInk[ink] : 0L;
        }

        boolean isKnot(int hole) {
            return hole >= 0 && hole < knotted.length && knotted[hole] != 0;
        }

        int knotAt(int k) {
            int were = 0;
            for (int hole = 0; hole < knotted.length; hole++) {
                if (knotted[hole] != 0) {
                    if (were == k) {
                        return hole;
                    }
                    were++;
                }
            }
            return NONE;
        }

        /** Those of some LINES that hang together with a HOLE by such LINES. */
        long together(long some, int hole) {
            long got = linesAt(hole) & some;
            long fresh = got;
            // each LINE is fresh once
            for (int k = 0; k < MOST_LINES && fresh != 0; k++) {
                int line = lowest(fresh);
                long more = (linesAt(fromOf(line)) | linesAt(toOf(line))) & some & ~got;
                got |= more;
                fresh = (fresh & (fresh - 1)) | more;
            }
            return got;
        }

        int partsOf(int ink) {
            long some = linesOf(ink);
            int parts = 0;
            for (int k = 0; k < MOST_LINES && some != 0; k++) {
                some &= ~together(some, fromOf(lowest(some)));
                parts++;
            }
            return parts;
        }

        int threadFor(int ink) {
            int length = 0;
            for (int line = 0; line < lines; line++) {
                if (ink == NONE || inkOf(line) == ink) {
                    int apart = Math.abs(toOf(line) - fromOf(line));
                    length += apart == 1 || apart == SIDE ? 20 : 28;
                }
            }
            return length;
        }

        int crossed(boolean unlike) {
            int crossings = 0;
            for (int hole = 0; hole < HOLES; hole++) {
                int rising = lineBy(hole, 1);
                int falling = lineBy(step(hole, 0), 3);
                if (rising != NONE && falling != NONE && !(unlike && inkOf(rising) == inkOf(falling))) {
                    crossings++;
                }
            }
            return crossings;
        }

        boolean likeItself(int by) {
            int west = SIDE;
            int east = 0;
            int south = SIDE;
            int north = 0;
            for (int hole = 0; hole < HOLES; hole++) {
                if (linesAt(hole) != 0) {
                    west = Math.min(west, hole % SIDE);
                    east = Math.max(east, hole % SIDE);
                    south = Math.min(south, hole / SIDE);
                    north = Math.max(north, hole / SIDE);
                }
            }
            // only so pushed the changed LINES fill the same frame
            for (int line = 0; line < lines; line++) {
                int one = changed(fromOf(line), by, west, east, south, north);
                int other = changed(toOf(line), by, west, east, south, north);
                int there = lineBetween(one, other);
                if (there == NONE || inkOf(there) != inkOf(line)) {
                    return false;
                }
            }
            return true;
        }

        private static int changed(int hole, int by, int west, int east, int south, int north) {
            int x = hole % SIDE;
            int y = hole / SIDE;
            switch (by) {
                case 0:
                    return holeAt(west + north - y, south + x - west);
                case 1:
                    return holeAt(west + east - x, south + north - y);
                case 2:
                    return holeAt(west + east - x, y);
                default:
                    return holeAt(x, south + north - y);
            }
        }

        private int lineBetween(int one, int other) {
            long both = linesAt(one) & linesAt(other);
            return one == other || both == 0 ? NONE : lowest(both);
        }
    }

    /** The statements of a TEXT in a row. */
    private static final class Script {
        private static final int MOST = 200;
        int size;
        private final int[] words = new int[MOST];
        private final int[] first = new int[MOST];
        private final int[] second = new int[MOST];
        private final int[] places = new int[MOST];

        void clear() {
            size = 0;
        }

        /** The second number of a block is told when it closes. */
        void add(int word, int one, int two, int place) {
            if (size >= 0 && size < MOST) {
                words[size] = word;
                first[size] = one;
                second[size] = two;
                places[size] = place;
                size++;
            }
        }

        void close(int block) {
            if (block < 0 || block >= MOST) {
                return;
            }
            second[block] = size;
            if (!drawsBehind(block)) {
                // where no WAY is gone, one round leaves what twelve would
                first[block] = 1;
            }
        }

        private boolean drawsBehind(int block) {
            for (int k = block + 1; k < size; k++) {
                if (wordOf(k) < AT) {
                    return true;
                }
            }
            return false;
        }

        int wordOf(int k) {
            return k >= 0 && k < MOST ? words[k] : AT;
        }

        int firstOf(int k) {
            return k >= 0 && k < MOST ? first[k] : 0;
        }

        int secondOf(int k) {
            return k >= 0 && k < MOST ? second[k] : 0;
        }

        int placeOf(int k) {
            return k >= 0 && k < MOST ? places[k] : 0;
        }
    }

    /** The tape. Makes a script of the TEXT on it, or tells what stands wrong in it. */
    private static final class Reader {
        private static final int END = 0;
        private static final int WORD = 1;
        private static final int NUMBER = 2;
        private static final int STRANGE = 3;

        int fed;
        int fault;
        int faultPlace;
        private final byte[] tape = new byte[MOST_BYTES];
        private final Script script;
        private int end;
        private int next;
        /** The TOKEN: its kind (a sign is its own), its place, its number. */
        private int kind;
        private int place;
        private int value;
        private int depth;
        private final int[] open = new int[MOST_OPEN];

        Reader(Script script) {
            this.script = script;
        }

        /** Four bytes more, the highest first. */
        void take(int bytes) {
            for (int shift = 24; shift >= 0; shift -= 8) {
                if (fed >= 0 && fed < tape.length) {
                    tape[fed] = (byte) (bytes >> shift);
                    fed++;
                }
            }
        }

        /** Reads the first n bytes; the tape is empty then. */
        void read(int n) {
            fed = 0;
            end = Math.min(n, tape.length);
            next = 0;
            depth = 0;
            fault = 0;
            faultPlace = NONE;
            script.clear();
            for (int k = 0; k <= end && fault == 0; k++) {
                token();
                if (kind == END && depth == 0) {
                    return;
                }
                int word = kind == WORD ? wordTold() : NONE;
                if (kind == ')' && depth > 0) {
                    sign(';');
                    closeBlock();
                } else if (word != NONE) {
                    worded(word, place);
                } else {
                    fail(2);
                }
            }
        }

        private void fail(int sort) {
            if (fault == 0) {
                fault = sort;
                faultPlace = place;
            }
        }

        /** Reads what a statement tells behind its word, or up to the block's beginning. */
        private void worded(int word, int at) {
            int one = 1;
            int two = 0;
            if (word < AT) {
                one = number(1, 11);
            } else if (word == INK) {
                one = number(0, 3);
            } else if (word == TIMES) {
                one = number(1, 12);
            } else if (word < TIMES) {
                one = number(0, 11);
                two = number(0, 11);
            }
            sign(word < TIMES ? ';' : '(');
            if (word >= TIMES) {
                openBlock();
            }
            if (fault == 0) {
                script.add(word, one, two, at);
            }
        }

        private void openBlock() {
            if (depth < 0 || depth >= open.length) {
                fail(4);
                return;
            }
            open[depth] = script.size;
            depth++;
        }

        private void closeBlock() {
            depth--;
            if (depth >= 0 && depth < open.length) {
                script.close(open[depth]);
            }
        }

        private void sign(int sign) {
            token();
            if (kind != sign) {
                fail(2);
            }
        }

        private int number(int least, int most) {
            token();
            if (kind != NUMBER) {
                fail(2);
            } else if (value < least || value > most) {
                fail(3);
            }
            return value;
        }

        private void token() {
            if (fault != 0) {
                return;
            }
            skipBlanks();
            place = next;
            int c = byteAt(next);
            if (next >= end) {
                kind = END;
            } else if (isLetter(c)) {
                letters();
            } else if (isDigit(c)) {
                digits();
            } else {
                kind = c == ';' || c == '(' || c == ')' ? c : STRANGE;
                next++;
            }
            if (kind == STRANGE) {
                fail(1);
            }
        }

        private void skipBlanks() {
            for (int k = next; k < end && (byteAt(k) == 10 || byteAt(k) == 32); k++) {
                next = k + 1;
            }
        }

        private void letters() {
            for (int k = next; k < end && isLetter(byteAt(k)); k++) {
                next = k + 1;
            }
            kind = WORD;
        }

        private int wordTold() {
            for (int word = 0; word < WORDS; word++) {
                if (isSpelled(nameOf(word))) {
                    return word;
                }
            }
            return NONE;
        }

        private boolean isSpelled(String name) {
            if (name.length() != next - place) {
                return false;
            }
            for (int k = 0; k < name.length(); k++) {
                if (name.charAt(k) != byteAt(place + k)) {
                    return false;
                }
            }
            return true;
        }

        private void digits() {
            value = 0;
            for (int k = next; k < end && isDigit(byteAt(k)); k++) {
                value = value < 1000 ? 10 * value + byteAt(k) - '0' : value;
                next = k + 1;
            }
            kind = next - place > 3 ? STRANGE : NUMBER;
        }

        private int byteAt(int k) {
            return k >= 0 && k < end && k < tape.length ? tape[k] & 255 : 0;
        }

        private static boolean isLetter(int c) {
            return c >= 'a' && c <= 'z';
        }

        private static boolean isDigit(int c) {
            return c >= '0' && c <= '9';
        }

        private static String nameOf(int word) {
            switch (word) {
                case 0: return "east";
                case 1: return "northeast";
                case 2: return "north";
                case 3: return "northwest";
                case 4: return "west";
                case 5: return "southwest";
                case 6: return "south";
                case 7: return "southeast";
                case AT: return "at";
                case INK: return "ink";
                case KNOT: return "knot";
                case TIMES: return "times";
                case TURN: return "turn";
                default: return "mirror";
            }
        }
    }

    /** Draws what a script tells, or tells what can't be drawn. */
    private static final class Pen {
        int fault;
        int faultPlace;
        private final Script script;
        private final Drawing paper;
        private int hole;
        private int ink;
        private int steps;

        Pen(Script script, Drawing paper) {
            this.script = script;
            this.paper = paper;
        }

        void draw() {
            fault = 0;
            faultPlace = NONE;
            hole = 0;
            ink = 0;
            steps = 0;
            paper.clear();
            follow(0, script.size, 0, 0, 1);
        }

        /** In all blocks together a WAY w is sign * w + turned. */
        private void follow(int from, int to, int depth, int turned, int sign) {
            int behind = from;
            for (int k = from; k < to && fault == 0; k++) {
                if (k < behind) {
                    continue;
                }
                int word = script.wordOf(k);
                if (word >= TIMES) {
                    behind = script.secondOf(k);
                    block(k, depth, turned, sign);
                } else if (word < AT) {
                    go(k, (sign * word + turned) & 7);
                } else {
                    set(k, word);
                }
            }
        }

        private void block(int k, int depth, int turned, int sign) {
            if (depth >= MOST_OPEN) {
                return;
            }
            int word = script.wordOf(k);
            int turnedIn = word == TURN ? turned + 2 * sign : turned;
            int signIn = word == TIMES || word == TURN ? sign : -sign;
            for (int round = 0; round < script.firstOf(k) && fault == 0; round++) {
                follow(k + 1, script.secondOf(k), depth + 1, turnedIn, signIn);
            }
        }

        private void set(int k, int word) {
            int told = SIDE * script.secondOf(k) + script.firstOf(k);
            if (word == AT) {
                hole = told;
            } else if (word == KNOT) {
                paper.tie(told);
            } else {
                ink = script.firstOf(k);
            }
        }

        private void go(int k, int way) {
            for (int n = 0; n < script.firstOf(k) && fault == 0; n++) {
                goOne(way);
                if (fault != 0) {
                    faultPlace = script.placeOf(k);
                }
            }
        }

        private void goOne(int way) {
            int to = step(hole, way);
            boolean isNew = paper.lineBy(hole, way) == NONE;
            if (to == NONE) {
                fault = 5;
            } else if (isNew && paper.lines >= MOST_LINES) {
                fault = 6;
            } else if (steps >= MOST_STEPS) {
                fault = 7;
            } else {
                if (isNew) {
                    paper.draw(hole, way, to, ink);
                }
                steps++;
                hole = to;
            }
        }
    }

    /** What is worked, and the THREAD. */
    private static final class Needle {
        long over;
        long under;
        boolean there;
        int ink;
        int began;
        int hole;
        int stitches;
        int cuts;
        private boolean firstOver;
        private final Drawing drawing;
        private final int[] ways = new int[MOST_STITCHES];

        Needle(Drawing drawing) {
            this.drawing = drawing;
        }

        void clear() {
            over = 0;
            under = 0;
            there = false;
            cuts = 0;
        }

        void copy(Needle other) {
            over = other.over;
            under = other.under;
            there = other.there;
            ink = other.ink;
            began = other.began;
            hole = other.hole;
            stitches = other.stitches;
            cuts = other.cuts;
            firstOver = other.firstOver;
            System.arraycopy(other.ways, 0, ways, 0, MOST_STITCHES);
        }

        void start(int where, int ofInk, boolean startsOver) {
            if (there) {
                snip();
            }
            there = true;
            ink = ofInk;
            began = where;
            hole = where;
            stitches = 0;
            firstOver = startsOver;
        }

        void snip() {
            there = false;
            cuts++;
        }

        boolean nextOver() {
            return firstOver == ((stitches & 1) == 0);
        }

        int wayOf(int k) {
            return k >= 0 && k < stitches && k < ways.length ? ways[k] : NONE;
        }

        int facesOf(int line) {
            int faces = (over >> line & 1) != 0 ? 1 : 0;
            return (under >> line & 1) != 0 ? faces + 2 : faces;
        }

        long openOver(int ofInk) {
            return drawing.linesOf(ofInk) & ~over;
        }

        long openUnder(int ofInk) {
            return drawing.linesOf(ofInk) & ~under;
        }

        int stillOpen() {
            return Long.bitCount(openOver(ink)) + Long.bitCount(openUnder(ink));
        }

        /** By what a STITCH CAN'T be; any number but a WAY's leads along no LINE. */
        int hindrance(int way) {
            if (!there) {
                return 1;
            }
            int line = drawing.lineBy(hole, way);
            if (line == NONE || drawing.inkOf(line) != ink) {
                return 2;
            }
            return ((nextOver() ? over : under) >> line & 1) != 0 ? 3 : 0;
        }

        int go(int way) {
            int hindrance = hindrance(way);
            if (hindrance == 0 && stitches >= 0 && stitches < ways.length) {
                int line = drawing.lineBy(hole, way);
                mark(line);
                ways[stitches] = way;
                stitches++;
                hole = drawing.otherEnd(line, hole);
            }
            return hindrance;
        }

        void goBack() {
            int way = wayOf(stitches - 1);
            if (way != NONE) {
                int line = drawing.lineBy(hole, (way + 4) & 7);
                stitches--;
                mark(line);
                hole = drawing.otherEnd(line, hole);
            }
        }

        /** Works a LINE as the next STITCH does, or takes that off again. */
        private void mark(int line) {
            if (nextOver()) {
                over ^= 1L << line;
            } else {
                under ^= 1L << line;
            }
        }
    }

    /** STITCHES that are LEFT, and a HOLE from which a THREAD would go on by them. */
    private static final class Rest {
        int bar;
        int barAt;
        int end;
        private final Drawing drawing;
        private long over;
        private long under;
        private int hole;
        private boolean nextOver;
        private final int[] row = new int[MOST_STITCHES];
        private int size;

        Rest(Drawing drawing) {
            this.drawing = drawing;
        }

        void behind(Needle needle) {
            put(needle.openOver(needle.ink), needle.openUnder(needle.ink), needle.hole, needle.nextOver());
        }

        void put(long openOver, long openUnder, int where, boolean goesOver) {
            over = openOver;
            under = openUnder;
            hole = where;
            nextOver = goesOver;
        }

        int many() {
            return Long.bitCount(over) + Long.bitCount(under);
        }

        private long apart() {
            return (over | under) & ~drawing.together(over | under, hole);
        }

        boolean hangs() {
            return apart() == 0;
        }

        boolean endsWell() {
            return hangs() && matches();
        }

        /** Finds what bars, or the ending. Hanging and matching are enough: two trails that meet can be joined. */
        void look() {
            bar = 0;
            barAt = NONE;
            end = NONE;
            long apart = apart();
            if (apart != 0) {
                bar = 1;
                barAt = lowest(apart);
            } else if (!matches()) {
                bar = 2;
            }
        }

        /** Finds the ending, or the HOLE that bars. */
        boolean matches() {
            end = NONE;
            for (int at = 0; at < HOLES; at++) {
                int odd = unmatched(at);
                if (odd != 0 && (end != NONE || odd > 1 || odd < -1)) {
                    end = NONE;
                    barAt = at;
                    return false;
                }
                if (odd != 0) {
                    end = at;
                }
            }
            return true;
        }

        private int unmatched(int at) {
            long lines = drawing.linesAt(at);
            int odd = Long.bitCount(lines & over) - Long.bitCount(lines & under);
            if (at != hole) {
                return odd;
            }
            return nextOver ? odd - 1 : odd + 1;
        }

        int wayOf(int k) {
            return k >= 0 && k < size && k < row.length ? row[k] : NONE;
        }

        /** The FIRST WORKING comes into the row: how many STITCHES; NONE. */
        int firstWorking() {
            size = 0;
            if (!endsWell()) {
                return NONE;
            }
            int many = many();
            for (int k = 0; k < many && k < row.length; k++) {
                row[k] = leastWay();
                size++;
            }
            return many;
        }

        /** Goes by the least WAY behind which the rest hangs together: that it matches, no STITCH changes. */
        private int leastWay() {
            int from = hole;
            for (int way = 0; way < WAYS; way++) {
                int line = drawing.lineBy(from, way);
                if (line != NONE && ((nextOver ? over : under) >> line & 1) != 0) {
                    goAlong(line);
                    if (hangs()) {
                        return way;
                    }
                    goBackAlong(line);
                }
            }
            return NONE;
        }

        private void goAlong(int line) {
            turn(line);
            nextOver = !nextOver;
            hole = drawing.otherEnd(line, hole);
        }

        private void goBackAlong(int line) {
            nextOver = !nextOver;
            turn(line);
            hole = drawing.otherEnd(line, hole);
        }

        private void turn(int line) {
            if (nextOver) {
                over ^= 1L << line;
            } else {
                under ^= 1L << line;
            }
        }

        int countWorkings() {
            if (many() > MOST_COUNTED) {
                return SPENT;
            }
            return endsWell() ? workings(drawing, over, under, hole, nextOver, 0) : 0;
        }

        private static int workings(Drawing drawing, long over, long under, int hole, boolean nextOver, int depth) {
            if ((over | under) == 0 || depth > MOST_COUNTED) {
                return 1;
            }
            int sum = 0;
            long open = drawing.linesAt(hole) & (nextOver ? over : under);
            for (int k = 0; k < WAYS && open != 0; k++) {
                long line = open & -open;
                int to = drawing.otherEnd(lowest(line), hole);
                if (nextOver) {
                    sum += workings(drawing, over ^ line, under, to, false, depth + 1);
                } else {
                    sum += workings(drawing, over, under ^ line, to, true, depth + 1);
                }
                open ^= line;
            }
            return sum;
        }

        int countPlaces(Needle needle, int ink) {
            int places = 0;
            for (int at = 0; at < HOLES; at++) {
                put(needle.openOver(ink), needle.openUnder(ink), at, true);
                places += endsWell() ? 1 : 0;
                put(needle.openOver(ink), needle.openUnder(ink), at, false);
                places += endsWell() ? 1 : 0;
            }
            return places;
        }
    }

    /** The fewest STITCHES to be taken out of a THREAD so that it ENDS WELL. */
    private static final class Unpicking {
        int first;
        int last;
        private final Drawing drawing;
        private final Rest rest;
        /** Behind each number of STITCHES: the HOLE, and what the THREAD had worked so far. */
        private final int[] holes = new int[MOST_STITCHES + 1];
        private final long[] overs = new long[MOST_STITCHES + 1];
        private final long[] unders = new long[MOST_STITCHES + 1];
        private final int[] matching = new int[MOST_STITCHES + 1];
        private int stitches;
        private boolean firstOver;
        private long openOver;
        private long openUnder;

        Unpicking(Drawing drawing, Rest rest) {
            this.drawing = drawing;
            this.rest = rest;
        }

        /** The first ones and last ones to be taken out; NONE both. */
        void find(Needle needle, boolean both) {
            trace(needle);
            first = NONE;
            last = NONE;
            for (int i = 0; i < matching.length; i++) {
                matching[i] = i <= stitches && (i == 0 || both) && put(i, 0) && rest.matches() ? 1 : 0;
            }
            for (int sum = 0; sum <= stitches && first == NONE; sum++) {
                // without any STITCH the THREAD is where it began, whatever is counted as first
                findOf(sum, both && sum < stitches ? sum : 0);
            }
        }

        private void findOf(int sum, int mostFirst) {
            for (int i = 0; i <= mostFirst && i < matching.length; i++) {
                // that STITCHES match, those taken out last don't change
                if (matching[i] != 0 && put(i, sum - i) && rest.hangs()) {
                    first = i;
                    last = sum - i;
                    return;
                }
            }
        }

        private void trace(Needle needle) {
            stitches = Math.min(needle.stitches, MOST_STITCHES);
            firstOver = needle.nextOver() == ((stitches & 1) == 0);
            openOver = needle.openOver(needle.ink);
            openUnder = needle.openUnder(needle.ink);
            holes[0] = needle.began;
            overs[0] = 0;
            unders[0] = 0;
            for (int k = 0; k < stitches && k < MOST_STITCHES; k++) {
                int line = drawing.lineBy(holes[k], needle.wayOf(k));
                long bit = line == NONE ? 0 : 1L << line;
                boolean goesOver = goesOver(k);
                overs[k + 1] = goesOver ? overs[k] | bit : overs[k];
                unders[k + 1] = goesOver ? unders[k] : unders[k] | bit;
                holes[k + 1] = drawing.otherEnd(line, holes[k]);
            }
        }

        private boolean goesOver(int k) {
            return firstOver == ((k & 1) == 0);
        }

        /** The rest is what it would be without so many first and last STITCHES; false, if there are not so many. */
        private boolean put(int i, int j) {
            int behind = stitches - j;
            if (i < 0 || j < 0 || i > behind || behind >= holes.length || stitches >= holes.length) {
                return false;
            }
            long overOut = overs[i] | overs[stitches] ^ overs[behind];
            long underOut = unders[i] | unders[stitches] ^ unders[behind];
            rest.put(openOver | overOut, openUnder | underOut, holes[behind], goesOver(behind));
            return true;
        }
    }

    /** The FEWEST THREADS; sets of STITCHES are bits of an int, of line k 2 k UNDER and 2 k + 1 OVER. */
    private static final class Sharing {
        private static final int SETS = 1 << 2 * MOST_SHARED;
        private static final int MOST_ENDS = 2 * MOST_SHARED;
        private final Drawing drawing;
        /** Behind a set of STITCHES where one THREAD can be: bit 2 h, if it goes on UNDER at end h, 2 h + 1 OVER. */
        private final int[] reached = new int[SETS];
        /** By how many THREADS a set can be worked; 0: none are known. */
        private final int[] fewest = new int[SETS];
        private final int[] ends = new int[MOST_ENDS];
        private int endsKnown;
        private final int[] one = new int[MOST_SHARED];
        private final int[] other = new int[MOST_SHARED];
        private int lines;

        Sharing(Drawing drawing) {
            this.drawing = drawing;
        }

        int fewestOf(int ink, int length) {
            long some = drawing.linesOf(ink);
            if (Long.bitCount(some) > MOST_SHARED) {
                return SPENT;
            }
            gather(some);
            int all = (1 << 2 * lines) - 1;
            int knotted = knottedEnds();
            spread(all, length, knotted);
            return share(all, knotted);
        }

        private void gather(long some) {
            lines = 0;
            endsKnown = 0;
            long more = some;
            for (int k = 0; k < MOST_SHARED && more != 0; k++) {
                int line = lowest(more);
                one[k] = endOf(drawing.fromOf(line));
                other[k] = endOf(drawing.toOf(line));
                lines++;
                more &= more - 1;
            }
        }

        private int endOf(int hole) {
            for (int h = 0; h < endsKnown && h < MOST_ENDS; h++) {
                if (ends[h] == hole) {
                    return h;
                }
            }
            if (endsKnown >= 0 && endsKnown < MOST_ENDS) {
                ends[endsKnown] = hole;
                endsKnown++;
            }
            return endsKnown - 1;
        }

        /** Where a THREAD may begin and end. */
        private int knottedEnds() {
            int knotted = 0;
            for (int h = 0; h < endsKnown && h < MOST_ENDS; h++) {
                if (drawing.knots == 0 || drawing.isKnot(ends[h])) {
                    knotted |= 3 << 2 * h;
                }
            }
            return knotted;
        }

        private void spread(int all, int length, int knotted) {
            Arrays.fill(reached, 0);
            reached[0] = knotted;
            // a STITCH more is a greater number
            for (int set = 0; set < all && set < SETS; set++) {
                if (reached[set] != 0 && Integer.bitCount(set) < length) {
                    for (int line = 0; line < lines && line < MOST_SHARED; line++) {
                        goOn(set, 2 * line, one[line], other[line]);
                        goOn(set, 2 * line, other[line], one[line]);
                        goOn(set, 2 * line + 1, one[line], other[line]);
                        goOn(set, 2 * line + 1, other[line], one[line]);
                    }
                }
            }
        }

        private void goOn(int set, int stitch, int from, int to) {
            int face = stitch & 1;
            int more = set | 1 << stitch;
            if (more != set && (reachedBy(set) >> 2 * from + face & 1) != 0 && more >= 0 && more < SETS) {
                reached[more] |= 1 << 2 * to + 1 - face;
            }
        }

        private int reachedBy(int set) {
            return set >= 0 && set < SETS ? reached[set] : 0;
        }

        private int share(int all, int knotted) {
            Arrays.fill(fewest, 0);
            for (int set = 0; set < all && set < SETS; set++) {
                if (set == 0 || fewest[set] != 0) {
                    shareBehind(set, all, knotted);
                }
            }
            int many = all >= 0 && all < SETS ? fewest[all] : 0;
            return many == 0 && all != 0 ? NONE : many;
        }

        /** One THREAD more, by the first STITCH that is missing and some others. */
        private void shareBehind(int set, int all, int knotted) {
            int missing = all & ~set;
            int first = missing & -missing;
            int others = missing & ~first;
            int some = others;
            for (int k = 0; k < SETS; k++) {
                int more = set | first | some;
                if ((reachedBy(first | some) & knotted) != 0) {
                    note(more, set);
                }
                if (some == 0) {
                    return;
                }
                some = (some - 1) & others;
            }
        }

        private void note(int more, int set) {
            if (set < 0 || set >= SETS || more < 0 || more >= SETS) {
                return;
            }
            int many = fewest[set] + 1;
            if (fewest[more] == 0 || many < fewest[more]) {
                fewest[more] = many;
            }
        }
    }

    /** A row of numbers of one sort. */
    private static final class Tray {
        boolean there;
        int many;
        private int sort;
        private final long[] row = new long[MOST_NUMBERS];

        void lay(int ofSort, int howMany) {
            there = true;
            sort = ofSort;
            many = howMany;
            Arrays.fill(row, 0L);
        }

        long put(int place, long v) {
            if (place < 0 || place >= row.length) {
                return 0;
            }
            row[place] = cutToSort(v);
            return row[place];
        }

        private long cutToSort(long v) {
            switch (sort) {
                case 0:
                    return (byte) v;
                case 1:
                    return (short) v;
                case 2:
                    return (int) v;
                default:
                    return v;
            }
        }

        /** The WAY that a number tells; NONE. */
        int wayAt(int place) {
            if (place < 0 || place >= row.length || row[place] < 0 || row[place] >= WAYS) {
                return NONE;
            }
            return (int) row[place];
        }
    }

    /** The DRAWING, what is worked and the THREAD, as they were. */
    private static final class Image {
        boolean made;
        final Drawing drawing = new Drawing();
        final Needle needle = new Needle(drawing);

        void make(Drawing ofDrawing, Needle ofNeedle) {
            made = true;
            drawing.copy(ofDrawing);
            needle.copy(ofNeedle);
        }
    }
}
