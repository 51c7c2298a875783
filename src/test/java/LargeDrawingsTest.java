import java.util.ArrayList;
import java.util.HashSet;
import java.util.List;
import java.util.Random;
import java.util.Set;

/** Drawings of up to 60 LINES: what can be told without trying all, told once more and set against the class. */
public final class LargeDrawingsTest {
    private static final int[] BY = {1, 13, 12, 11, -1, -13, -12, -11};
    private static final Check CHECK = new Check();

    private final int seed;
    private final Random random;
    private final BothSides x = new BothSides();
    /** What of the THREAD's INK is open: line and face as 2 line + 1 for OVER. */
    private final Set<Integer> open = new HashSet<>();

    private LargeDrawingsTest(int seed) {
        this.seed = seed;
        random = new Random(seed);
    }

    public static void main(String[] args) {
        for (int seed = 0; seed < 250; seed++) {
            new LargeDrawingsTest(seed).run();
        }
        CHECK.end();
    }

    private void run() {
        Check.draw(x, web());
        int inks = 1 + random.nextInt(2);
        for (int round = 0; round < 3; round++) {
            x.begin(x.line(random.nextInt(x.count(0)), random.nextInt(2)), random.nextInt(inks), random.nextBoolean());
            sew(random.nextInt(60));
            look();
            faces();
            unpicked();
            places();
        }
        working();
    }

    /** A walk without aim, of one INK or two. */
    private String web() {
        StringBuilder text = new StringBuilder("at 5 5;");
        int many = random.nextInt(90);
        for (int k = 0; k <= many && text.length() < 660; k++) {
            text.append(random.nextInt(12) == 0 ? "ink " + random.nextInt(2) + ";" : "");
            text.append(random.nextInt(9) == 0 ? "at 5 5;" : "");
            text.append(Model.WAYS.get(random.nextInt(8))).append(" 1;");
        }
        BothSides y = new BothSides();
        return Check.draw(y, text.toString()) > 0 ? text.toString() : web();
    }

    private void sew(int many) {
        for (int k = 0; k < many; k++) {
            int first = random.nextInt(8);
            for (int w = 0; w < 8 && x.stitch((first + w) % 8) != 0; w++) {
                continue;
            }
        }
    }

    private static void gather(BothSides x, int ink, Set<Integer> open) {
        open.clear();
        for (int line = 0; line < x.count(0); line++) {
            for (int face = 0; face < 2; face++) {
                if (x.line(line, 2) == ink && (x.line(line, 3) & 2 - face) == 0) {
                    open.add(2 * line + face);
                }
            }
        }
    }

    /** 0, or by what it is barred, and at what, or where it ends: as two numbers. */
    private int[] theory(Set<Integer> some, int hole, boolean over) {
        Set<Integer> near = new HashSet<>(List.of(hole));
        boolean grew = true;
        while (grew) {
            grew = false;
            for (int f : some) {
                int a = x.line(f / 2, 0);
                int b = x.line(f / 2, 1);
                if (near.contains(a) != near.contains(b)) {
                    near.add(a);
                    near.add(b);
                    grew = true;
                }
            }
        }
        int[] sum = new int[144];
        int far = Integer.MAX_VALUE;
        for (int f : some) {
            far = near.contains(x.line(f / 2, 0)) ? far : Math.min(far, f / 2);
            sum[x.line(f / 2, 0)] += f % 2 == 1 ? 1 : -1;
            sum[x.line(f / 2, 1)] += f % 2 == 1 ? 1 : -1;
        }
        if (far < Integer.MAX_VALUE) {
            return new int[] {1, far};
        }
        sum[hole] -= over ? 1 : -1;
        List<Integer> odd = new ArrayList<>();
        for (int h = 0; h < 144; h++) {
            if (sum[h] != 0) {
                odd.add(h);
            }
        }
        if (Math.abs(sum[odd.get(0)]) > 1) {
            return new int[] {2, odd.get(0)};
        }
        return odd.size() > 1 ? new int[] {2, odd.get(1)} : new int[] {0, odd.get(0)};
    }

    private void look() {
        gather(x, x.thread(3), open);
        int[] t = theory(open, x.thread(0), x.thread(1) == 1);
        CHECK.due(seed + " left", x.left(), open.size());
        CHECK.due(seed + " barred(0)", x.barred(0), t[0]);
        CHECK.due(seed + " barred(1)", x.barred(1), t[0] == 0 ? -1 : t[1]);
        CHECK.due(seed + " ending", x.ending(), t[0] == 0 ? t[1] : -1);
        CHECK.due(seed + " ways", x.ways() == -2, open.size() > 16);
        if (t[0] != 0) {
            CHECK.due(seed + " working", x.working(-1), -1);
        }
    }

    private void faces() {
        int over = 0;
        int both = 0;
        for (int line = 0; line < x.count(0); line++) {
            over += x.line(line, 3) & 1;
            both += x.line(line, 3) == 3 ? 1 : 0;
        }
        CHECK.due(seed + " seen", x.seen(true), over);
        CHECK.due(seed + " worked", x.count(3), both);
    }

    private void places() {
        int ink = x.thread(3);
        gather(x, ink, open);
        int sum = 0;
        for (int h = 0; h < 144; h++) {
            sum += theory(open, h, true)[0] == 0 ? 1 : 0;
            sum += theory(open, h, false)[0] == 0 ? 1 : 0;
        }
        CHECK.due(seed + " places", x.places(ink), sum);
    }

    private void unpicked() {
        for (int both = 0; both < 2; both++) {
            int[] due = unpicking(both == 1);
            for (int what = 0; what < 3; what++) {
                CHECK.due(seed + " unpicked " + both + " " + what, x.unpicked(both == 1, what), due[what]);
            }
        }
    }

    private int[] unpicking(boolean both) {
        int n = x.thread(2);
        int[] holes = new int[n + 1];
        int[] faces = new int[n];
        boolean over = n % 2 == 0 == (x.thread(1) == 1);
        holes[0] = x.thread(4);
        for (int k = 0; k < n; k++) {
            faces[k] = 2 * x.lineAt(holes[k], x.done(k)) + (k % 2 == 0 == over ? 1 : 0);
            holes[k + 1] = holes[k] + BY[x.done(k)];
        }
        gather(x, x.thread(3), open);
        for (int sum = 0; sum <= n; sum++) {
            for (int i = 0; i <= (both && sum < n ? sum : 0); i++) {
                Set<Integer> some = new HashSet<>(open);
                for (int k = 0; k < n; k++) {
                    if (k < i || k >= n - sum + i) {
                        some.add(faces[k]);
                    }
                }
                int behind = n - sum + i;
                if (theory(some, holes[behind], behind % 2 == 0 == over)[0] == 0) {
                    return new int[] {sum, i, sum - i};
                }
            }
        }
        return new int[] {-1, -1, -1};
    }

    /** From a new THREAD that ENDS WELL, if there is one: each STITCH the least that can be. */
    private void working() {
        x.drawing(0);
        Check.draw(x, web());
        x.begin(x.line(0, random.nextInt(2)), x.line(0, 2), random.nextBoolean());
        sew(random.nextInt(4));
        if (x.unpicked(false, 0) > 0) {
            x.unpick(x.unpicked(false, 0));
        }
        gather(x, x.thread(3), open);
        if (x.barred(0) != 0) {
            return;
        }
        int hole = x.thread(0);
        boolean over = x.thread(1) == 1;
        int before = x.thread(2);
        int end = x.ending();
        CHECK.due(seed + " working(NONE)", x.working(-1), open.size());
        String row = Check.working(x);
        for (int k = 0; k < row.length(); k++) {
            for (int way = 0; way <= row.charAt(k) - '0'; way++) {
                int f = 2 * x.lineAt(hole, way) + (over ? 1 : 0);
                if (open.remove(f)) {
                    boolean well = theory(open, hole + BY[way], !over)[0] == 0;
                    CHECK.due(seed + " working " + row + " at " + k + " by " + way, well, way == row.charAt(k) - '0');
                    if (well) {
                        hole += BY[way];
                        break;
                    }
                    open.add(f);
                }
            }
            over = !over;
        }
        CHECK.due(seed + " work", x.work(), row.length());
        CHECK.due(seed + " left behind work", x.left(), 0);
        CHECK.due(seed + " hole behind work", x.thread(0), end);
        CHECK.due(seed + " stitches behind work", x.thread(2), before + row.length());
    }
}
