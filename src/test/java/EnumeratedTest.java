import java.util.ArrayList;
import java.util.Arrays;
import java.util.List;

/**
 * Terms, part 2, word by word: of small modules all vectors, singles and pairs are written down one after the other,
 * and what each sentence says is looked up among them. Nothing is solved here, only counted.
 */
public final class EnumeratedTest {
    private static final int MOST_PAIRS = 400_000;
    private static final int MOST_ACTIONS = 3;
    private static final int MOST_READ = 25;
    private static final int MOST_CALLS = 512;
    private static final int KLEIN = 6;

    private final int kind;
    private final int n;
    private final int p;
    private final int r;
    private final int[][] product;
    /** By elements, then by rows. */
    private final int[][] matrix;
    private GroupTowers towers;
    private int calls = MOST_CALLS;

    private EnumeratedTest(int kind, int p, int r, int[][] matrix) {
        this.kind = kind;
        this.n = matrix.length;
        this.p = p;
        this.r = r;
        this.matrix = matrix;
        this.product = new int[n][n];
        for (int x = 0; x < n; x++) {
            for (int y = 0; y < n; y++) {
                product[x][y] = kind == KLEIN ? x ^ y : (x + y) % n;
            }
        }
    }

    public static void main(String[] args) {
        int looked = 0;
        for (int kind = 2; kind <= KLEIN; kind++) {
            int n = kind == KLEIN ? 4 : kind;
            for (int p : new int[] {2, 3, 5}) {
                for (int r = 1; r <= 2; r++) {
                    if (Math.pow(p, (n - 1) * (n - 1) * r) <= MOST_PAIRS) {
                        looked += lookAtSome(kind, n, p, r);
                    }
                }
            }
        }
        Check.due("modules looked at", looked >= 30 ? 1 : 0, 1);
        Check.end();
    }

    /** The action at rest and the last ones found, so that those that move come too. */
    private static int lookAtSome(int kind, int n, int p, int r) {
        List<int[][]> actions = actions(kind, n, p, r);
        int looked = 0;
        for (int k = 0; k < actions.size(); k++) {
            if (isAtRest(actions.get(k)) || k >= actions.size() - MOST_ACTIONS + 1) {
                new EnumeratedTest(kind, p, r, actions.get(k)).look();
                looked++;
            }
        }
        return looked;
    }

    private static boolean isAtRest(int[][] action) {
        for (int[] one : action) {
            if (!isUnit(one)) {
                return false;
            }
        }
        return true;
    }

    private static boolean isUnit(int[] a) {
        return a.length == 1 ? a[0] == 1 : a[0] == 1 && a[1] == 0 && a[2] == 0 && a[3] == 1;
    }

    private static List<int[][]> actions(int kind, int n, int p, int r) {
        List<int[]> roots = new ArrayList<>();
        for (int code = 0; code < power(p, r * r); code++) {
            int[] a = digits(code, p, r * r);
            int[] all = a;
            for (int i = 1; i < (kind == KLEIN ? 2 : n); i++) {
                all = times(all, a, p);
            }
            if (isUnit(all)) {
                roots.add(a);
            }
        }
        List<int[][]> out = new ArrayList<>();
        for (int[] a : roots) {
            for (int[] b : kind == KLEIN ? roots : List.of(a)) {
                int[] ab = times(a, b, p);
                if (Arrays.equals(ab, times(b, a, p))) {
                    out.add(kind == KLEIN ? new int[][] {unit(r), a, b, ab} : powers(a, n, p));
                }
            }
        }
        return out;
    }

    private static int[] unit(int r) {
        return r == 1 ? new int[] {1} : new int[] {1, 0, 0, 1};
    }

    private static int[][] powers(int[] a, int n, int p) {
        int[][] out = new int[n][];
        out[0] = unit(a.length == 1 ? 1 : 2);
        for (int x = 1; x < n; x++) {
            out[x] = times(out[x - 1], a, p);
        }
        return out;
    }

    private static int[] times(int[] a, int[] b, int p) {
        if (a.length == 1) {
            return new int[] {a[0] * b[0] % p};
        }
        return new int[] {(a[0] * b[0] + a[1] * b[2]) % p, (a[0] * b[1] + a[1] * b[3]) % p,
            (a[2] * b[0] + a[3] * b[2]) % p, (a[2] * b[1] + a[3] * b[3]) % p};
    }

    private static int power(int base, int exponent) {
        int out = 1;
        for (int i = 0; i < exponent; i++) {
            out *= base;
        }
        return out;
    }

    /** The lowest one first. */
    private static int[] digits(int code, int p, int length) {
        int[] out = new int[length];
        for (int i = 0; i < length; i++) {
            out[i] = code % p;
            code /= p;
        }
        return out;
    }

    private int code(int[] row) {
        int out = 0;
        for (int i = row.length - 1; i >= 0; i--) {
            out = out * p + row[i];
        }
        return out;
    }

    /** Number i of x v, v standing in a row. */
    private int moved(int x, int[] row, int from, int i) {
        int total = 0;
        for (int j = 0; j < r; j++) {
            total += matrix[x][i * r + j] * row[from + j];
        }
        return total;
    }

    private static boolean isZero(int[] row) {
        return lead(row) < 0;
    }

    private static int lead(int[] row) {
        for (int i = 0; i < row.length; i++) {
            if (row[i] != 0) {
                return i;
            }
        }
        return -1;
    }

    /** A row of places for x (and y) that are not 0, with those of 0 put in. */
    private int[] withZero(int[] row, boolean pair) {
        int[] out = new int[r * (pair ? n * n : n)];
        for (int x = 1; x < n; x++) {
            for (int y = 1; y < (pair ? n : 2); y++) {
                for (int i = 0; i < r; i++) {
                    int at = pair ? (x - 1) * (n - 1) + y - 1 : x - 1;
                    out[r * (pair ? n * x + y : x) + i] = row[r * at + i];
                }
            }
        }
        return out;
    }

    private boolean isSingleCocycle(int[] f) {
        for (int x = 0; x < n; x++) {
            for (int y = 0; y < n; y++) {
                for (int i = 0; i < r; i++) {
                    if ((f[r * x + i] + moved(x, f, r * y, i)) % p != f[r * product[x][y] + i]) {
                        return false;
                    }
                }
            }
        }
        return true;
    }

    private boolean isPairCocycle(int[] f) {
        for (int x = 0; x < n; x++) {
            for (int y = 0; y < n; y++) {
                for (int z = 0; z < n; z++) {
                    for (int i = 0; i < r; i++) {
                        int left = moved(x, f, r * (n * y + z), i) + f[r * (n * x + product[y][z]) + i];
                        int right = f[r * (n * product[x][y] + z) + i] + f[r * (n * x + y) + i];
                        if (left % p != right % p) {
                            return false;
                        }
                    }
                }
            }
        }
        return true;
    }

    private int[] boundPair(int[] h) {
        int[] out = new int[r * n * n];
        for (int x = 0; x < n; x++) {
            for (int y = 0; y < n; y++) {
                for (int i = 0; i < r; i++) {
                    out[r * (n * x + y) + i] =
                        (h[r * x + i] + moved(x, h, r * y, i) + p - h[r * product[x][y] + i]) % p;
                }
            }
        }
        return out;
    }

    private void look() {
        String of = "group " + kind + ", " + p + ", " + r + ", by " + Arrays.deepToString(matrix) + ": ";
        Check.due(of + "sound", next().sound(0), 0);
        countVectorsAndSingles(of);
        List<int[]> bounds = new ArrayList<>();
        boolean[] isLead = new boolean[r * n * n];
        boolean[] isBound = new boolean[power(p, r * (n - 1) * (n - 1))];
        for (int code = 0; code < power(p, r * (n - 1)); code++) {
            int[] f = boundPair(withZero(digits(code, p, r * (n - 1)), false));
            if (!isBound[code(withoutZero(f))]) {
                isBound[code(withoutZero(f))] = true;
                bounds.add(f);
            }
            if (!isZero(f)) {
                isLead[lead(f)] = true;
            }
        }
        List<int[]> cocycles = new ArrayList<>();
        List<int[]> others = new ArrayList<>();
        for (int code = 0; code < isBound.length; code++) {
            int[] f = withZero(digits(code, p, r * (n - 1) * (n - 1)), true);
            (isPairCocycle(f) ? cocycles : others).add(f);
        }
        Check.due(of + "pair cocycles", power(p, next().dimension(0, 3)), cocycles.size());
        Check.due(of + "bound pairs", power(p, next().dimension(0, 4)), bounds.size());
        Check.due(of + "classes", power(p, next().dimension(0, 5)), cocycles.size() / bounds.size());
        List<int[]> classes = classes(of, cocycles, isLead);
        compareTwists(of, classes);
        compareRead(of, cocycles, others, classes, isBound);
    }

    private int[] withoutZero(int[] f) {
        int[] out = new int[r * (n - 1) * (n - 1)];
        int at = 0;
        for (int x = 1; x < n; x++) {
            for (int y = 1; y < n; y++) {
                for (int i = 0; i < r; i++) {
                    out[at++] = f[r * (n * x + y) + i];
                }
            }
        }
        return out;
    }

    private void countVectorsAndSingles(String of) {
        int unmoved = 0;
        boolean[] isBound = new boolean[power(p, r * n)];
        int bounds = 0;
        for (int v = 0; v < power(p, r); v++) {
            int[] vector = digits(v, p, r);
            int[] f = new int[r * n];
            for (int x = 0; x < n; x++) {
                for (int i = 0; i < r; i++) {
                    f[r * x + i] = (moved(x, vector, 0, i) + p - vector[i]) % p;
                }
            }
            unmoved += isZero(f) ? 1 : 0;
            bounds += isBound[code(f)] ? 0 : 1;
            isBound[code(f)] = true;
        }
        int cocycles = 0;
        for (int code = 0; code < power(p, r * (n - 1)); code++) {
            cocycles += isSingleCocycle(withZero(digits(code, p, r * (n - 1)), false)) ? 1 : 0;
        }
        Check.due(of + "unmoved vectors", power(p, next().dimension(0, 0)), unmoved);
        Check.due(of + "single cocycles", power(p, next().dimension(0, 1)), cocycles);
        Check.due(of + "bound singles", power(p, next().dimension(0, 2)), bounds);
        Check.due(of + "1 less 2", power(p, next().dimension(0, 6)), cocycles / bounds);
        Check.due(of + "parts", next().parts(0, 0), cocycles);
    }

    /** The pair of each class, in order. */
    private List<int[]> classes(String of, List<int[]> cocycles, boolean[] isLead) {
        List<int[]> standards = new ArrayList<>();
        boolean[] isFirst = new boolean[isLead.length];
        for (int[] f : cocycles) {
            boolean standard = true;
            for (int i = 0; i < f.length; i++) {
                standard &= !isLead[i] || f[i] == 0;
            }
            if (standard) {
                standards.add(f);
                if (!isZero(f)) {
                    isFirst[lead(f)] = true;
                }
            }
        }
        List<int[]> classes = new ArrayList<>();
        classes.add(new int[isLead.length]);
        for (int first = 0; first < isFirst.length; first++) {
            if (isFirst[first]) {
                int[] one = theStandard(of, standards, isFirst, first);
                int ahead = classes.size();
                for (int c = ahead; c < ahead * p; c++) {
                    int[] f = classes.get(c - ahead).clone();
                    for (int i = 0; i < f.length; i++) {
                        f[i] = (f[i] + one[i]) % p;
                    }
                    classes.add(f);
                }
            }
        }
        Check.due(of + "standards", standards.size(), classes.size());
        return classes;
    }

    /** The one whose first number that is not 0 is a 1 there, and that has 0 where others have theirs. */
    private int[] theStandard(String of, List<int[]> standards, boolean[] isFirst, int first) {
        int[] found = new int[isFirst.length];
        int many = 0;
        for (int[] f : standards) {
            boolean fits = lead(f) == first && f[first] == 1;
            for (int i = first + 1; i < f.length; i++) {
                fits &= !isFirst[i] || f[i] == 0;
            }
            if (fits) {
                found = f;
                many++;
            }
        }
        Check.due(of + "standards that begin at " + first, many, 1);
        return found;
    }

    private void compareTwists(String of, List<int[]> classes) {
        int step = 1 + classes.size() / MOST_READ;
        for (int c = 0; c < classes.size(); c += step) {
            for (int at = 0; at < r * n * n; at++) {
                int twist = next().twist(0, c, at / r / n, at / r % n, at % r);
                Check.due(of + "class " + c + ", place " + at, twist, classes.get(c)[at]);
            }
        }
        Check.due(of + "no class ahead", next().twist(0, -1, 0, 0, 0), GroupTowers.BAD);
        Check.due(of + "the last class", next().twist(0, classes.size() - 1, 0, 0, 0), 0);
        Check.due(of + "no class behind", next().twist(0, classes.size(), 0, 0, 0), GroupTowers.BAD);
    }

    private void compareRead(String of, List<int[]> cocycles, List<int[]> others, List<int[]> classes,
            boolean[] isBound) {
        int step = 1 + cocycles.size() / MOST_READ;
        for (int k = 0; k < cocycles.size(); k += step) {
            int found = -1;
            int many = 0;
            for (int c = 0; c < classes.size(); c++) {
                int[] away = cocycles.get(k).clone();
                for (int i = 0; i < away.length; i++) {
                    away[i] = (away[i] + p - classes.get(c)[i]) % p;
                }
                if (isBound[code(withoutZero(away))]) {
                    found = c;
                    many++;
                }
            }
            Check.due(of + "classes of cocycle " + k, many, 1);
            Check.due(of + "class of cocycle " + k, read(cocycles.get(k)), found);
        }
        step = 1 + others.size() / MOST_READ;
        for (int k = 0; k < others.size(); k += step) {
            Check.due(of + "no cocycle " + k, read(others.get(k)), GroupTowers.NONE);
        }
        for (int at = 0; at < r * n * n; at++) {
            if (at / r / n == 0 || at / r % n == 0) {
                int[] f = new int[r * n * n];
                f[at] = 1;
                Check.due(of + "not 0 at place " + at, read(f), GroupTowers.NONE);
            }
        }
    }

    private int read(int[] f) {
        if (calls + f.length + 2 > MOST_CALLS) {
            begin();
        }
        next().sheet(0, 1, f.length);
        for (int i = 0; i < f.length; i++) {
            next().lay(0, i, f[i] - p * (i % 3));
        }
        return next().classOf(0, 0, 1);
    }

    private GroupTowers next() {
        if (calls >= MOST_CALLS) {
            begin();
        }
        calls++;
        return towers;
    }

    private void begin() {
        towers = new GroupTowers();
        calls = n + 4;
        if (kind == KLEIN) {
            towers.dihedral(2);
        } else {
            towers.cyclic(n);
        }
        towers.module(0, p, r);
        for (int x = 0; x < n; x++) {
            int[] a = matrix[x];
            towers.acts(0, x, a[0], r == 1 ? 0 : a[1], r == 1 ? 0 : a[2], r == 1 ? 0 : a[3]);
        }
    }
}
