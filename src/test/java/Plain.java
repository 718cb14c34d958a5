import java.util.ArrayList;
import java.util.Arrays;
import java.util.List;

/**
 * The document once more, as slowly and plainly as it is worded, to be compared with GroupTowers:
 * every rule is checked for all elements, and what the document counts is counted one by one.
 */
final class Plain {
    static final int BAD = -1, STATE = -2, FULL = -3, NONE = -4, SPENT = -5;

    private static final class Mod {
        int[][] g;
        int p;
        int r;
        int[][][] matrix;
        Facts facts;
    }

    /** What is found of a sound module. */
    private static final class Facts {
        int[] dims = new int[7];
        int[][] bounds;
        int[][] standards;
        int classes;
    }

    private final List<int[][]> groups = new ArrayList<>();
    private final List<Mod> modules = new ArrayList<>();
    private final Object[] sheets = new Object[4];

    private int add(int[][] t) {
        groups.add(t);
        return groups.size() - 1;
    }

    private int[][] group(int g) {
        return g < 0 || g >= groups.size() ? null : groups.get(g);
    }

    private Mod mod(int m) {
        return m < 0 || m >= modules.size() ? null : modules.get(m);
    }

    int cyclic(int n) {
        if (n < 1 || n > 48) return BAD;
        if (groups.size() == 8) return FULL;
        int[][] t = new int[n][n];
        for (int x = 0; x < n; x++) for (int y = 0; y < n; y++) t[x][y] = (x + y) % n;
        return add(t);
    }

    int dihedral(int n) {
        if (n < 1 || n > 24) return BAD;
        if (groups.size() == 8) return FULL;
        int[][] t = new int[2 * n][2 * n];
        for (int x = 0; x < n; x++) {
            for (int y = 0; y < n; y++) {
                t[x][y] = (x + y) % n;
                t[x][n + y] = n + (x + y) % n;
                t[n + x][y] = n + (x - y + n) % n;
                t[n + x][n + y] = (x - y + n) % n;
            }
        }
        return add(t);
    }

    int quaternions() {
        if (groups.size() == 8) return FULL;
        // Four real numbers each: the product as Hamilton has it.
        int[][] units = new int[8][4];
        for (int u = 0; u < 4; u++) {
            units[u][u] = 1;
            units[u + 4][u] = -1;
        }
        int[][] t = new int[8][8];
        for (int x = 0; x < 8; x++) {
            for (int y = 0; y < 8; y++) {
                int[] a = units[x], b = units[y];
                int[] c = {
                    a[0] * b[0] - a[1] * b[1] - a[2] * b[2] - a[3] * b[3],
                    a[0] * b[1] + a[1] * b[0] + a[2] * b[3] - a[3] * b[2],
                    a[0] * b[2] - a[1] * b[3] + a[2] * b[0] + a[3] * b[1],
                    a[0] * b[3] + a[1] * b[2] - a[2] * b[1] + a[3] * b[0]};
                for (int z = 0; z < 8; z++) if (Arrays.equals(units[z], c)) t[x][y] = z;
            }
        }
        return add(t);
    }

    int pair(int a, int b) {
        int[][] s = group(a), t = group(b);
        if (s == null || t == null) return BAD;
        if (groups.size() == 8 || s.length * t.length > 48) return FULL;
        int n = t.length, all = s.length * n;
        int[][] u = new int[all][all];
        for (int x = 0; x < all; x++) {
            for (int y = 0; y < all; y++) u[x][y] = n * s[x / n][y / n] + t[x % n][y % n];
        }
        return add(u);
    }

    int sheet(int k, int lane, int n) {
        if (k < 0 || k > 3 || lane < 0 || lane > 1 || n > 144) return BAD;
        if (n < 0) return -14;
        sheets[k] = lane == 0 ? (Object) new byte[n] : new int[n];
        return 1;
    }

    int lay(int k, int i, int v) {
        if (k < 0 || k > 3) return BAD;
        try {
            Object s = sheets[k];
            if (s instanceof int[]) ((int[]) s)[i] = v;
            else ((byte[]) s)[i] = (byte) v;
            return 1;
        } catch (NullPointerException e) {
            return -11;
        } catch (ArrayIndexOutOfBoundsException e) {
            return -12;
        }
    }

    /** The first cells of a sheet; where the machine finds a fault, a row of -10 less the fault alone. */
    private int[] read(int k, int lane, int needed) {
        if (sheets[k] == null) return new int[] {-11};
        int[] cells = new int[needed];
        try {
            for (int i = 0; i < needed; i++) {
                cells[i] = lane == 0 ? ((byte[]) sheets[k])[i] : ((int[]) sheets[k])[i];
            }
        } catch (ClassCastException e) {
            return new int[] {-13};
        } catch (ArrayIndexOutOfBoundsException e) {
            return new int[] {-12};
        }
        return cells;
    }

    int table(int k, int lane, int n) {
        if (k < 0 || k > 3 || lane < 0 || lane > 1 || n < 1 || n > 12) return BAD;
        int[] c = read(k, lane, n * n);
        if (faulty(k, lane, n * n)) return c[0];
        if (groups.size() == 8) return FULL;
        for (int i = 0; i < n * n; i++) {
            int x = i / n, y = i % n;
            if (c[i] < 0 || c[i] > n - 1) return -100 - i;
            if (x == 0 && c[i] != y) return -100 - i;
            if (y == 0 && c[i] != x) return -100 - i;
        }
        for (int i = 0; i < n * n * n; i++) {
            int x = i / (n * n), y = i / n % n, z = i % n;
            if (c[n * c[n * x + y] + z] != c[n * x + c[n * y + z]]) return -1100 - i;
        }
        for (int x = 0; x < n; x++) {
            boolean some = false;
            for (int y = 0; y < n; y++) if (c[n * x + y] == 0 && c[n * y + x] == 0) some = true;
            if (!some) return -3100 - x;
        }
        int[][] t = new int[n][n];
        for (int i = 0; i < n * n; i++) t[i / n][i % n] = c[i];
        return add(t);
    }

    private boolean faulty(int k, int lane, int needed) {
        Object s = sheets[k];
        if (s == null) return true;
        if (s instanceof byte[] != (lane == 0)) return true;
        return (lane == 0 ? ((byte[]) s).length : ((int[]) s).length) < needed;
    }

    int drop() {
        if (groups.isEmpty()) return NONE;
        int g = groups.size() - 1;
        for (Mod m : modules) if (m.g == groups.get(g)) return STATE;
        groups.remove(g);
        return g;
    }

    int order(int g) {
        return group(g) == null ? BAD : group(g).length;
    }

    private static boolean in(int[][] t, int x) {
        return x >= 0 && x < t.length;
    }

    int product(int g, int x, int y) {
        int[][] t = group(g);
        if (t == null || !in(t, x) || !in(t, y)) return BAD;
        return t[x][y];
    }

    private static int inverse(int[][] t, int x) {
        for (int y = 0; y < t.length; y++) if (t[x][y] == 0 && t[y][x] == 0) return y;
        return -99;
    }

    private static int period(int[][] t, int x) {
        int n = 1;
        for (int y = x; y != 0; y = t[x][y]) n++;
        return n;
    }

    private static int turned(int[][] t, int x) {
        int least = 99;
        for (int y = 0; y < t.length; y++) least = Math.min(least, t[t[y][x]][inverse(t, y)]);
        return least;
    }

    int element(int g, int x, int what) {
        int[][] t = group(g);
        if (t == null || !in(t, x) || what < 0 || what > 3) return BAD;
        if (what == 0) return inverse(t, x);
        if (what == 1) return period(t, x);
        if (what == 3) return turned(t, x);
        int found = 0;
        for (int y = 0; y < t.length; y++) if (t[x][y] == t[y][x]) found++;
        return found;
    }

    /** Everything that products of what is held make. */
    private static boolean[] closure(int[][] t, boolean[] start) {
        boolean[] held = start.clone();
        held[0] = true;
        boolean more = true;
        while (more) {
            more = false;
            for (int x = 0; x < t.length; x++) {
                for (int y = 0; held[x] && y < t.length; y++) {
                    if (held[y] && !held[t[x][y]]) {
                        held[t[x][y]] = true;
                        more = true;
                    }
                }
            }
        }
        return held;
    }

    private static int size(boolean[] held) {
        int n = 0;
        for (boolean h : held) if (h) n++;
        return n;
    }

    int about(int g, int what) {
        int[][] t = group(g);
        if (t == null || what < 0 || what > 5) return BAD;
        int n = t.length;
        if (what == 0 || what == 4) {
            int found = 0;
            for (int x = 0; x < n; x++) if (element(g, x, 2) == n) found++;
            return what == 0 ? found : found == n ? 1 : 0;
        }
        if (what == 1) {
            boolean[] some = new boolean[n];
            for (int x = 0; x < n; x++) {
                for (int y = 0; y < n; y++) some[t[t[t[x][y]][inverse(t, x)]][inverse(t, y)]] = true;
            }
            return size(closure(t, some));
        }
        if (what == 2) {
            for (int k = 1;; k++) {
                boolean all = true;
                for (int x = 0; x < n; x++) {
                    int y = 0;
                    for (int i = 0; i < k; i++) y = t[y][x];
                    if (y != 0) all = false;
                }
                if (all) return k;
            }
        }
        if (what == 3) {
            boolean[] least = new boolean[n];
            for (int x = 0; x < n; x++) least[turned(t, x)] = true;
            return size(least);
        }
        return makers(t).length;
    }

    private static int[] makers(int[][] t) {
        for (int length = 0;; length++) {
            int[] row = new int[length];
            if (someRow(t, row, 0, -1)) return row;
        }
    }

    private static boolean someRow(int[][] t, int[] row, int at, int behind) {
        if (at == row.length) {
            boolean[] held = new boolean[t.length];
            for (int x : row) held[x] = true;
            return size(closure(t, held)) == t.length;
        }
        for (int x = behind + 1; x < t.length; x++) {
            row[at] = x;
            if (someRow(t, row, at + 1, x)) return true;
        }
        return false;
    }

    int made(int g, int x, int y) {
        int[][] t = group(g);
        if (t == null || !in(t, x) || !in(t, y)) return BAD;
        boolean[] held = new boolean[t.length];
        held[x] = true;
        held[y] = true;
        return size(closure(t, held));
    }

    int same(int a, int b, int n) {
        int[][] s = group(a), t = group(b);
        if (s == null || t == null || n < 0 || n > 20000) return BAD;
        if (s.length != t.length) return 0;
        int[] tally = new int[49];
        for (int x = 0; x < s.length; x++) {
            tally[period(s, x)]++;
            tally[period(t, x)]--;
        }
        for (int k : tally) if (k != 0) return 0;
        int[] tries = {0, n};
        int[] makers = makers(s);
        return tryRows(s, t, makers, new int[makers.length], 0, tries);
    }

    private static int tryRows(int[][] s, int[][] t, int[] makers, int[] given, int at, int[] tries) {
        if (at == makers.length) {
            if (tries[0] == tries[1]) return SPENT;
            tries[0]++;
            return renames(s, t, makers, given) ? 1 : 0;
        }
        for (int y = 0; y < t.length; y++) {
            if (period(t, y) == period(s, makers[at])) {
                given[at] = y;
                int answer = tryRows(s, t, makers, given, at + 1, tries);
                if (answer != 0) return answer;
            }
        }
        return 0;
    }

    /** Lets products be followed until nothing is new; then all products are looked at. */
    private static boolean renames(int[][] s, int[][] t, int[] makers, int[] given) {
        int n = s.length;
        int[] image = new int[n];
        Arrays.fill(image, -1);
        image[0] = 0;
        for (int i = 0; i < makers.length; i++) image[makers[i]] = given[i];
        boolean more = true;
        while (more) {
            more = false;
            for (int x = 0; x < n; x++) {
                for (int i = 0; i < makers.length; i++) {
                    int y = s[x][makers[i]];
                    if (image[x] >= 0 && image[y] < 0) {
                        image[y] = t[image[x]][given[i]];
                        more = true;
                    }
                }
            }
        }
        boolean[] hit = new boolean[n];
        for (int x = 0; x < n; x++) {
            if (image[x] < 0 || hit[image[x]]) return false;
            hit[image[x]] = true;
        }
        for (int x = 0; x < n; x++) {
            for (int y = 0; y < n; y++) if (image[s[x][y]] != t[image[x]][image[y]]) return false;
        }
        return true;
    }

    int module(int g, int p, int r) {
        int[][] t = group(g);
        if (t == null || t.length > 8 || p != 2 && p != 3 && p != 5 || r < 1 || r > 2) return BAD;
        if (modules.size() == 6) return FULL;
        Mod m = new Mod();
        m.g = t;
        m.p = p;
        m.r = r;
        m.matrix = new int[t.length][r][r];
        for (int[][] one : m.matrix) for (int i = 0; i < r; i++) one[i][i] = 1;
        modules.add(m);
        return modules.size() - 1;
    }

    int acts(int m, int x, int a, int b, int c, int d) {
        Mod o = mod(m);
        if (o == null || !in(o.g, x)) return BAD;
        for (int v : new int[] {a, b, c, d}) if (v < 0 || v >= o.p) return BAD;
        if (o.r == 1 && (b | c | d) != 0) return BAD;
        o.matrix[x] = o.r == 1 ? new int[][] {{a}} : new int[][] {{a, b}, {c, d}};
        o.facts = null;
        return 1;
    }

    int sound(int m) {
        Mod o = mod(m);
        if (o == null) return BAD;
        int n = o.g.length;
        for (int i = 0; i < o.r; i++) {
            for (int j = 0; j < o.r; j++) if (o.matrix[0][i][j] != (i == j ? 1 : 0)) return 1000;
        }
        for (int x = 0; x < n; x++) {
            for (int y = 0; y < n; y++) {
                int[][] c = new int[o.r][o.r];
                for (int i = 0; i < o.r; i++) {
                    for (int j = 0; j < o.r; j++) {
                        for (int k = 0; k < o.r; k++) c[i][j] += o.matrix[x][i][k] * o.matrix[y][k][j];
                        c[i][j] %= o.p;
                    }
                }
                if (!Arrays.deepEquals(c, o.matrix[o.g[x][y]])) return 1 + n * x + y;
            }
        }
        return 0;
    }

    // Rows are written for all elements here, 0 too, so that no place needs care: f(x, y) at R (n x + y).

    private static int[][] echelon(List<int[]> given, int p) {
        List<int[]> rows = new ArrayList<>();
        for (int[] row : given) rows.add(row.clone());
        int width = rows.isEmpty() ? 0 : rows.get(0).length;
        int done = 0;
        for (int c = 0; c < width && done < rows.size(); c++) {
            int at = -1;
            for (int i = done; i < rows.size() && at < 0; i++) if (rows.get(i)[c] != 0) at = i;
            if (at < 0) continue;
            int[] lead = rows.remove(at);
            rows.add(done, lead);
            int one = 1;
            while (one * lead[c] % p != 1) one++;
            for (int k = 0; k < width; k++) lead[k] = lead[k] * one % p;
            for (int i = 0; i < rows.size(); i++) {
                int share = rows.get(i)[c];
                if (i == done || share == 0) continue;
                for (int k = 0; k < width; k++) rows.get(i)[k] = (rows.get(i)[k] + (p - share) * lead[k]) % p;
            }
            done++;
        }
        return rows.subList(0, done).toArray(new int[0][]);
    }

    private static List<int[]> nullSpace(List<int[]> equations, int width, int p) {
        int[][] e = echelon(equations, p);
        int[] rowOf = new int[width];
        Arrays.fill(rowOf, -1);
        for (int i = 0; i < e.length; i++) rowOf[lead(e[i])] = i;
        List<int[]> out = new ArrayList<>();
        for (int free = 0; free < width; free++) {
            if (rowOf[free] >= 0) continue;
            int[] v = new int[width];
            v[free] = 1;
            for (int c = 0; c < width; c++) if (rowOf[c] >= 0) v[c] = (p - e[rowOf[c]][free]) % p;
            out.add(v);
        }
        return out;
    }

    private static int lead(int[] row) {
        for (int i = 0; i < row.length; i++) if (row[i] != 0) return i;
        return -1;
    }

    private static void lower(int[] row, int[][] echelon, int p) {
        for (int[] e : echelon) {
            int share = row[lead(e)];
            for (int k = 0; k < row.length; k++) row[k] = (row[k] + (p - share) * e[k]) % p;
        }
    }

    private static int[] unit(int width, int at) {
        int[] row = new int[width];
        row[at] = 1;
        return row;
    }

    private static List<int[]> tidy(List<int[]> rows, int p) {
        for (int[] row : rows) for (int k = 0; k < row.length; k++) row[k] = Math.floorMod(row[k], p);
        return rows;
    }

    private Facts facts(Mod o) {
        if (o.facts != null) return o.facts;
        if (sound(modules.indexOf(o)) != 0) return null;
        Facts f = new Facts();
        int n = o.g.length, r = o.r, p = o.p;
        List<int[]> still = new ArrayList<>();
        List<int[]> moves = new ArrayList<>();
        for (int x = 0; x < n; x++) {
            for (int i = 0; i < r; i++) {
                int[] row = o.matrix[x][i].clone();
                row[i]--;
                still.add(row);
            }
        }
        for (int j = 0; j < r; j++) {
            int[] row = new int[n * r];
            for (int x = 0; x < n; x++) {
                for (int i = 0; i < r; i++) row[x * r + i] = o.matrix[x][i][j] - (i == j ? 1 : 0);
            }
            moves.add(row);
        }
        f.dims[0] = nullSpace(tidy(still, p), r, p).size();
        f.dims[2] = echelon(tidy(moves, p), p).length;
        f.dims[1] = nullSpace(singleRules(o), n * r, p).size();
        List<int[]> pairs = nullSpace(pairRules(o), n * n * r, p);
        f.bounds = echelon(boundPairs(o), p);
        f.dims[3] = pairs.size();
        f.dims[4] = f.bounds.length;
        f.dims[5] = f.dims[3] - f.dims[4];
        f.dims[6] = f.dims[1] - f.dims[2];
        for (int[] one : pairs) lower(one, f.bounds, p);
        f.standards = echelon(pairs, p);
        f.classes = 1;
        for (int i = 0; i < f.dims[5]; i++) f.classes *= p;
        if (f.standards.length != f.dims[5]) throw new IllegalStateException("standards");
        o.facts = f;
        return f;
    }

    private static List<int[]> singleRules(Mod o) {
        int n = o.g.length, r = o.r;
        List<int[]> rules = new ArrayList<>();
        for (int i = 0; i < r; i++) rules.add(unit(n * r, i));
        for (int x = 0; x < n; x++) {
            for (int y = 0; y < n; y++) {
                for (int i = 0; i < r; i++) {
                    int[] row = new int[n * r];
                    row[o.g[x][y] * r + i]++;
                    row[x * r + i]--;
                    for (int j = 0; j < r; j++) row[y * r + j] -= o.matrix[x][i][j];
                    rules.add(row);
                }
            }
        }
        return tidy(rules, o.p);
    }

    private static List<int[]> pairRules(Mod o) {
        int n = o.g.length, r = o.r;
        List<int[]> rules = new ArrayList<>();
        for (int x = 0; x < n; x++) {
            for (int i = 0; i < r; i++) {
                rules.add(unit(n * n * r, r * x + i));
                rules.add(unit(n * n * r, r * n * x + i));
            }
        }
        for (int x = 0; x < n; x++) {
            for (int y = 0; y < n; y++) {
                for (int z = 0; z < n; z++) {
                    for (int i = 0; i < r; i++) {
                        int[] row = new int[n * n * r];
                        for (int j = 0; j < r; j++) row[r * (n * y + z) + j] += o.matrix[x][i][j];
                        row[r * (n * x + o.g[y][z]) + i]++;
                        row[r * (n * o.g[x][y] + z) + i]--;
                        row[r * (n * x + y) + i]--;
                        rules.add(row);
                    }
                }
            }
        }
        return tidy(rules, o.p);
    }

    private static List<int[]> boundPairs(Mod o) {
        int n = o.g.length, r = o.r;
        List<int[]> rows = new ArrayList<>();
        for (int k = r; k < n * r; k++) {
            int[] h = unit(n * r, k);
            int[] row = new int[n * n * r];
            for (int x = 0; x < n; x++) {
                for (int y = 0; y < n; y++) {
                    for (int i = 0; i < r; i++) {
                        int v = h[x * r + i] - h[o.g[x][y] * r + i];
                        for (int j = 0; j < r; j++) v += o.matrix[x][i][j] * h[y * r + j];
                        row[r * (n * x + y) + i] = v;
                    }
                }
            }
            rows.add(row);
        }
        return tidy(rows, o.p);
    }

    int dimension(int m, int what) {
        Mod o = mod(m);
        if (o == null || what < 0 || what > 6) return BAD;
        Facts f = facts(o);
        return f == null ? STATE : f.dims[what];
    }

    private int refusal(Mod o, int c) {
        if (c < 0) return BAD;
        Facts f = facts(o);
        if (f == null) return STATE;
        return c >= f.classes ? BAD : 0;
    }

    private int[] pairOf(Mod o, int c) {
        int[] row = new int[o.g.length * o.g.length * o.r];
        for (int[] s : facts(o).standards) {
            for (int k = 0; k < row.length; k++) row[k] = (row[k] + c % o.p * s[k]) % o.p;
            c /= o.p;
        }
        return row;
    }

    int twist(int m, int c, int x, int y, int i) {
        Mod o = mod(m);
        if (o == null || !in(o.g, x) || !in(o.g, y) || i < 0 || i >= o.r) return BAD;
        int no = refusal(o, c);
        return no != 0 ? no : pairOf(o, c)[o.r * (o.g.length * x + y) + i];
    }

    /** The product of two of the group over; vectors are taken apart and put together number by number. */
    private static int overProduct(Mod o, int[] f, int a, int b) {
        int q = o.r == 1 ? o.p : o.p * o.p;
        int n = o.g.length, x = a / q, y = b / q;
        int[] v = {a % q % o.p, a % q / o.p}, w = {b % q % o.p, b % q / o.p};
        int number = 0;
        for (int i = o.r - 1; i >= 0; i--) {
            int one = v[i] + f[o.r * (n * x + y) + i];
            for (int j = 0; j < o.r; j++) one += o.matrix[x][i][j] * w[j];
            number = number * o.p + one % o.p;
        }
        return q * o.g[x][y] + number;
    }

    private static int vectors(Mod o) {
        return o.r == 1 ? o.p : o.p * o.p;
    }

    int over(int m, int c) {
        Mod o = mod(m);
        if (o == null) return BAD;
        int no = refusal(o, c);
        if (no != 0) return no;
        int all = vectors(o) * o.g.length;
        if (groups.size() == 8 || all > 48) return FULL;
        int[] f = pairOf(o, c);
        int[][] t = new int[all][all];
        for (int a = 0; a < all; a++) for (int b = 0; b < all; b++) t[a][b] = overProduct(o, f, a, b);
        return add(t);
    }

    int classOf(int m, int k, int lane) {
        Mod o = mod(m);
        if (o == null || k < 0 || k > 3 || lane < 0 || lane > 1) return BAD;
        Facts facts = facts(o);
        if (facts == null) return STATE;
        int n = o.g.length;
        int[] f = read(k, lane, o.r * n * n);
        if (faulty(k, lane, o.r * n * n)) return f[0];
        for (int i = 0; i < f.length; i++) f[i] = Math.floorMod(f[i], o.p);
        for (int[] rule : pairRules(o)) {
            int total = 0;
            for (int i = 0; i < f.length; i++) total += rule[i] * f[i];
            if (total % o.p != 0) return NONE;
        }
        for (int c = 0; c < facts.classes; c++) {
            int[] away = pairOf(o, c);
            for (int i = 0; i < f.length; i++) away[i] = (f[i] + o.p - away[i]) % o.p;
            lower(away, facts.bounds, o.p);
            if (lead(away) < 0) return c;
        }
        throw new IllegalStateException("no class");
    }

    /** Counts the rows of one element above each x that are a part, where those are not too many. */
    int parts(int m, int c) {
        Mod o = mod(m);
        if (o == null) return BAD;
        int no = refusal(o, c);
        if (no != 0) return no;
        int q = vectors(o), n = o.g.length;
        double rows = Math.pow(q, n - 1);
        if (rows > 5000) return c != 0 ? 0 : (int) Math.round(Math.pow(o.p, facts(o).dims[1]));
        int[] f = pairOf(o, c);
        int found = 0;
        for (int row = 0; row < (int) rows; row++) {
            int[] above = new int[n];
            int rest = row;
            for (int x = 1; x < n; x++) {
                above[x] = q * x + rest % q;
                rest /= q;
            }
            boolean closed = true;
            for (int x = 0; x < n && closed; x++) {
                for (int y = 0; y < n && closed; y++) {
                    closed = overProduct(o, f, above[x], above[y]) == above[o.g[x][y]];
                }
            }
            if (closed) found++;
        }
        return found;
    }

    private int classOfRow(Mod o, int[] f) {
        Facts facts = facts(o);
        for (int c = 0; c < facts.classes; c++) if (Arrays.equals(pairOf(o, c), f)) return c;
        throw new IllegalStateException("no class");
    }

    int sum(int m, int c, int d) {
        Mod o = mod(m);
        if (o == null) return BAD;
        int no = refusal(o, c);
        if (no == 0) no = refusal(o, d);
        if (no != 0) return no;
        int[] f = pairOf(o, c), h = pairOf(o, d);
        for (int i = 0; i < f.length; i++) f[i] = (f[i] + h[i]) % o.p;
        return classOfRow(o, f);
    }

    int times(int m, int c, int s) {
        Mod o = mod(m);
        if (o == null || s < 1 || s > o.p - 1) return BAD;
        int no = refusal(o, c);
        if (no != 0) return no;
        int[] f = pairOf(o, c);
        for (int i = 0; i < f.length; i++) f[i] = f[i] * s % o.p;
        return classOfRow(o, f);
    }

    int count(int what) {
        if (what < 0 || what > 2) return BAD;
        if (what == 0) return groups.size();
        if (what == 1) return modules.size();
        if (sheets[0] == null) return NONE;
        return sheets[0] instanceof byte[] ? ((byte[]) sheets[0]).length : ((int[]) sheets[0]).length;
    }

    int leave() {
        if (modules.isEmpty()) return NONE;
        modules.remove(modules.size() - 1);
        return modules.size();
    }
}
