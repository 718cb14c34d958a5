/** Runs of calls, likely and unlikely ones, on GroupTowers and on the plain reading of the document. */
public final class AgainstPlainTest {
    private static final String[] NAMES = {
        "cyclic", "dihedral", "quaternions", "pair", "sheet", "lay", "table", "drop", "order", "product",
        "element", "about", "made", "same", "module", "acts", "sound", "dimension", "twist", "over",
        "classOf", "parts", "sum", "times", "count", "leave"};
    private static final int CYCLIC = 0, DIHEDRAL = 1, QUATERNIONS = 2, PAIR = 3, SHEET = 4, LAY = 5, TABLE = 6,
        DROP = 7, ORDER = 8, PRODUCT = 9, ELEMENT = 10, ABOUT = 11, MADE = 12, SAME = 13, MODULE = 14, ACTS = 15,
        SOUND = 16, DIMENSION = 17, TWIST = 18, OVER = 19, CLASS_OF = 20, PARTS = 21, SUM = 22, TIMES = 23,
        COUNT = 24, LEAVE = 25;
    private static final int MOST_CALLS = 512;

    private final GroupTowers towers = new GroupTowers();
    private final Plain plain = new Plain();
    private final int run;
    private long seed;
    private int calls;

    private AgainstPlainTest(int run) {
        this.run = run;
        this.seed = run * 7919L + 17;
    }

    public static void main(String[] args) {
        int runs = args.length > 0 ? Integer.parseInt(args[0]) : 150;
        int first = args.length > 1 ? Integer.parseInt(args[1]) : 0;
        for (int run = first; run < first + runs; run++) {
            new AgainstPlainTest(run).play();
        }
        Check.end();
    }

    private int below(int n) {
        seed = seed * 6364136223846793005L + 1442695040888963407L;
        return (int) ((seed >>> 33) % n);
    }

    private void play() {
        while (calls < MOST_CALLS) {
            int kind = below(100);
            if (kind < 6) {
                makeGroup();
            } else if (kind < 12) {
                makeModule();
            } else if (kind < 16) {
                layTable();
            } else if (kind < 24) {
                layPair();
            } else if (kind < 50) {
                askGroup();
            } else if (kind < 86) {
                askModule();
            } else if (kind < 91) {
                call(DROP);
            } else if (kind < 93) {
                call(LEAVE);
            } else {
                anything();
            }
        }
    }

    private int someGroup() {
        return below(12) == 0 ? below(12) - 2 : below(Math.max(plain.count(0), 1));
    }

    private int someModule() {
        return below(12) == 0 ? below(10) - 2 : below(Math.max(plain.count(1), 1));
    }

    private int someElement(int g) {
        int order = Math.max(plain.order(g), 1);
        return below(12) == 0 ? below(order + 4) - 2 : below(order);
    }

    private int someClass(int m) {
        int h = plain.dimension(m, 5);
        int classes = 1;
        for (int i = 0; i < h; i++) {
            classes *= 2 + below(2);
        }
        return below(10) == 0 ? below(classes + 4) - 2 : below(classes);
    }

    private void makeGroup() {
        switch (below(8)) {
            case 0: call(CYCLIC, below(52) - 1); break;
            case 1: case 2: call(CYCLIC, 1 + below(8)); break;
            case 3: call(DIHEDRAL, below(27) - 1); break;
            case 4: call(DIHEDRAL, 1 + below(4)); break;
            case 5: call(QUATERNIONS); break;
            default: call(PAIR, someGroup(), someGroup());
        }
    }

    private void makeModule() {
        int g = someGroup();
        if (plain.order(g) > 8 && below(4) != 0) {
            call(DROP);
            return;
        }
        if (plain.count(1) == 6 && below(3) != 0) {
            call(LEAVE);
        }
        int p = below(15) == 0 ? below(7) : new int[] {2, 2, 3, 5}[below(4)];
        int r = below(15) == 0 ? below(5) - 1 : 1 + below(2);
        int m = plain.count(1);
        if (call(MODULE, g, p, r) == m && below(3) != 0) {
            act(m, g, p, r);
        }
    }

    /** Looks for matrices that go with all products, and lays them; some of the time one that does not. */
    private void act(int m, int g, int p, int r) {
        int n = plain.order(g);
        for (int attempt = 0; attempt < 400; attempt++) {
            int[][] found = someAction(g, n, p, r);
            if (found != null) {
                for (int x = 1; x < n; x++) {
                    call(ACTS, m, x, found[x][0], found[x][1], found[x][2], found[x][3]);
                }
                break;
            }
        }
        if (below(6) == 0) {
            call(ACTS, m, below(n), below(p), r == 1 ? 0 : below(p), r == 1 ? 0 : below(p), r == 1 ? 0 : below(p));
        }
        call(SOUND, m);
    }

    private int[][] someAction(int g, int n, int p, int r) {
        int[][] image = new int[n][];
        image[0] = new int[] {1, 0, 0, r == 1 ? 0 : 1};
        for (int x = 1; x < n; x++) {
            if (image[x] == null) {
                image[x] = r == 1 ? new int[] {below(p), 0, 0, 0}
                    : new int[] {below(p), below(p), below(p), below(p)};
            }
            for (int again = 0; again < 3; again++) {
                for (int a = 0; a < n; a++) {
                    for (int b = 0; b < n; b++) {
                        int ab = plain.product(g, a, b);
                        if (image[a] != null && image[b] != null && image[ab] == null) {
                            image[ab] = times(image[a], image[b], p);
                        }
                    }
                }
            }
        }
        for (int a = 0; a < n; a++) {
            for (int b = 0; b < n; b++) {
                if (!java.util.Arrays.equals(times(image[a], image[b], p), image[plain.product(g, a, b)])) {
                    return null;
                }
            }
        }
        return image;
    }

    private static int[] times(int[] a, int[] b, int p) {
        return new int[] {(a[0] * b[0] + a[1] * b[2]) % p, (a[0] * b[1] + a[1] * b[3]) % p,
            (a[2] * b[0] + a[3] * b[2]) % p, (a[2] * b[1] + a[3] * b[3]) % p};
    }

    /** A table of a group there is, its elements renamed, at times with a fault. */
    private void layTable() {
        int g = someGroup();
        int n = plain.order(g);
        if (n < 1 || n > 12 || calls + n * n > MOST_CALLS) {
            return;
        }
        int[] name = new int[n];
        for (int x = 1; x < n; x++) {
            int other = 1 + below(x);
            name[x] = name[other];
            name[other] = x;
        }
        int k = below(4);
        int lane = below(2);
        call(SHEET, k, lane, n * n + below(3));
        for (int x = 0; x < n; x++) {
            for (int y = 0; y < n; y++) {
                call(LAY, k, n * name[x] + name[y], name[plain.product(g, x, y)]);
            }
        }
        for (int faults = below(3) - 1; faults > 0; faults--) {
            call(LAY, k, below(n * n), below(4) == 0 ? below(600) - 300 : below(n));
        }
        call(TABLE, k, lane, n);
        if (below(4) == 0) {
            call(TABLE, k, below(3), below(15));
        }
    }

    /** A cocycle: that of a class, with a bound one added, its numbers moved by P's; at times with a fault. */
    private void layPair() {
        int m = someModule();
        int zero = plain.twist(m, 0, 0, 0, 0);
        if (zero < 0) {
            return;
        }
        int n = 1;
        while (plain.twist(m, 0, n, 0, 0) == 0) {
            n++;
        }
        int r = plain.twist(m, 0, 0, 0, 1) == 0 ? 2 : 1;
        int p = 2;
        while (plain.times(m, 0, p) == 0) {
            p++;
        }
        if (calls + n * n * r + 4 > MOST_CALLS) {
            return;
        }
        int c = someClass(m);
        while (plain.twist(m, c, 0, 0, 0) < 0) {
            c = someClass(m);
        }
        int g = groupOf(m, n);
        int k = below(4);
        int lane = below(2);
        int[] h = new int[n * r];
        for (int i = r; i < n * r; i++) {
            h[i] = below(p);
        }
        call(SHEET, k, lane, n * n * r + below(3));
        for (int x = 0; x < n; x++) {
            for (int y = 0; y < n; y++) {
                for (int i = 0; i < r; i++) {
                    int v = plain.twist(m, c, x, y, i) + h[x * r + i] + moved(m, x, h, y, i, r);
                    v -= g < 0 ? 0 : h[plain.product(g, x, y) * r + i];
                    int bound = lane == 0 ? 9 : 100000;
                    call(LAY, k, r * (n * x + y) + i, v + p * (below(2 * bound) - bound));
                }
            }
        }
        for (int faults = below(3) - 1; faults > 0; faults--) {
            call(LAY, k, below(n * n * r), below(300));
        }
        call(CLASS_OF, m, k, lane);
        call(CLASS_OF, m, k, below(3) - 1);
    }

    private final int[] groupOfModule = new int[6];
    private final int[][][] matrixOfModule = new int[6][8][4];

    private int groupOf(int m, int n) {
        return plain.order(groupOfModule[m]) == n ? groupOfModule[m] : -1;
    }

    private int moved(int m, int x, int[] h, int y, int i, int r) {
        int total = 0;
        for (int j = 0; j < r; j++) {
            total += matrixOfModule[m][x][i * 2 + j] * h[y * r + j];
        }
        return total;
    }

    private void askGroup() {
        int g = someGroup();
        int x = someElement(g);
        int y = someElement(g);
        switch (below(8)) {
            case 0: call(ORDER, g); break;
            case 1: call(PRODUCT, g, x, y); break;
            case 2: case 3: call(ELEMENT, g, x, below(6) - 1); break;
            case 4: case 5: call(ABOUT, g, below(8) - 1); break;
            case 6: call(MADE, g, x, y); break;
            default: call(SAME, g, someGroup(), new int[] {0, 1, 2, 5, 30, 200, 20000, -1, 20001}[below(9)]);
        }
    }

    private void askModule() {
        int m = someModule();
        switch (below(10)) {
            case 0: call(SOUND, m); break;
            case 1: case 2: call(DIMENSION, m, below(9) - 1); break;
            case 3: case 4: call(TWIST, m, someClass(m), below(10) - 1, below(10) - 1, below(4) - 1); break;
            case 5: call(OVER, m, someClass(m)); break;
            case 6: call(PARTS, m, someClass(m)); break;
            case 7: call(SUM, m, someClass(m), someClass(m)); break;
            case 8: call(TIMES, m, someClass(m), below(6)); break;
            default: call(COUNT, below(5) - 1);
        }
    }

    private void anything() {
        int[] a = new int[6];
        for (int i = 0; i < 6; i++) {
            int kind = below(12);
            a[i] = kind == 0 ? Integer.MIN_VALUE : kind == 1 ? Integer.MAX_VALUE : kind < 4 ? below(300) - 150
                : below(9) - 2;
        }
        call(below(NAMES.length), a[0], a[1], a[2], a[3], a[4], a[5]);
    }

    private int call(int what, int... given) {
        if (calls == MOST_CALLS) {
            return -99;
        }
        calls++;
        int[] a = java.util.Arrays.copyOf(given, 6);
        int got = ask(towers, what, a);
        int want = askPlain(what, a);
        remember(what, a, want);
        if (got != want) {
            Check.due("run " + run + ", call " + calls + ": " + NAMES[what] + java.util.Arrays.toString(a), got, want);
        }
        return want;
    }

    private void remember(int what, int[] a, int answer) {
        if (what == MODULE && answer >= 0) {
            groupOfModule[answer] = a[0];
            for (int[] matrix : matrixOfModule[answer]) {
                matrix[0] = 1;
                matrix[1] = 0;
                matrix[2] = 0;
                matrix[3] = 1;
            }
        }
        if (what == ACTS && answer == 1) {
            System.arraycopy(a, 2, matrixOfModule[a[0]][a[1]], 0, 4);
        }
    }

    private static int ask(GroupTowers t, int what, int[] a) {
        switch (what) {
            case CYCLIC: return t.cyclic(a[0]);
            case DIHEDRAL: return t.dihedral(a[0]);
            case QUATERNIONS: return t.quaternions();
            case PAIR: return t.pair(a[0], a[1]);
            case SHEET: return t.sheet(a[0], a[1], a[2]);
            case LAY: return t.lay(a[0], a[1], a[2]);
            case TABLE: return t.table(a[0], a[1], a[2]);
            case DROP: return t.drop();
            case ORDER: return t.order(a[0]);
            case PRODUCT: return t.product(a[0], a[1], a[2]);
            case ELEMENT: return t.element(a[0], a[1], a[2]);
            case ABOUT: return t.about(a[0], a[1]);
            case MADE: return t.made(a[0], a[1], a[2]);
            case SAME: return t.same(a[0], a[1], a[2]);
            case MODULE: return t.module(a[0], a[1], a[2]);
            case ACTS: return t.acts(a[0], a[1], a[2], a[3], a[4], a[5]);
            case SOUND: return t.sound(a[0]);
            case DIMENSION: return t.dimension(a[0], a[1]);
            case TWIST: return t.twist(a[0], a[1], a[2], a[3], a[4]);
            case OVER: return t.over(a[0], a[1]);
            case CLASS_OF: return t.classOf(a[0], a[1], a[2]);
            case PARTS: return t.parts(a[0], a[1]);
            case SUM: return t.sum(a[0], a[1], a[2]);
            case TIMES: return t.times(a[0], a[1], a[2]);
            case COUNT: return t.count(a[0]);
            default: return t.leave();
        }
    }

    private int askPlain(int what, int[] a) {
        switch (what) {
            case CYCLIC: return plain.cyclic(a[0]);
            case DIHEDRAL: return plain.dihedral(a[0]);
            case QUATERNIONS: return plain.quaternions();
            case PAIR: return plain.pair(a[0], a[1]);
            case SHEET: return plain.sheet(a[0], a[1], a[2]);
            case LAY: return plain.lay(a[0], a[1], a[2]);
            case TABLE: return plain.table(a[0], a[1], a[2]);
            case DROP: return plain.drop();
            case ORDER: return plain.order(a[0]);
            case PRODUCT: return plain.product(a[0], a[1], a[2]);
            case ELEMENT: return plain.element(a[0], a[1], a[2]);
            case ABOUT: return plain.about(a[0], a[1]);
            case MADE: return plain.made(a[0], a[1], a[2]);
            case SAME: return plain.same(a[0], a[1], a[2]);
            case MODULE: return plain.module(a[0], a[1], a[2]);
            case ACTS: return plain.acts(a[0], a[1], a[2], a[3], a[4], a[5]);
            case SOUND: return plain.sound(a[0]);
            case DIMENSION: return plain.dimension(a[0], a[1]);
            case TWIST: return plain.twist(a[0], a[1], a[2], a[3], a[4]);
            case OVER: return plain.over(a[0], a[1]);
            case CLASS_OF: return plain.classOf(a[0], a[1], a[2]);
            case PARTS: return plain.parts(a[0], a[1]);
            case SUM: return plain.sum(a[0], a[1], a[2]);
            case TIMES: return plain.times(a[0], a[1], a[2]);
            case COUNT: return plain.count(a[0]);
            default: return plain.leave();
        }
    }
}
