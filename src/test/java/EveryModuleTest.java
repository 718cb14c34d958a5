/** Every group up to an order of 8, every prime and rank, some actions of each: all facts against the plain reading. */
public final class EveryModuleTest {
    private static final int ACTIONS = 6;
    private long seed = 4;

    public static void main(String[] args) {
        EveryModuleTest test = new EveryModuleTest();
        for (int kind = 0; kind < 14; kind++) {
            for (int p : new int[] {2, 3, 5}) {
                for (int r = 1; r <= 2; r++) {
                    test.compareAll(kind, p, r);
                }
            }
        }
        Check.end();
    }

    private int below(int n) {
        seed = seed * 6364136223846793005L + 1442695040888963407L;
        return (int) ((seed >>> 33) % n);
    }

    /** Puts a group into both; its number is the answer. */
    private static int begin(GroupTowers t, Plain plain, int kind) {
        if (kind < 8) {
            plain.cyclic(kind + 1);
            return t.cyclic(kind + 1);
        }
        if (kind < 11) {
            plain.dihedral(kind - 6);
            return t.dihedral(kind - 6);
        }
        if (kind == 11) {
            plain.quaternions();
            return t.quaternions();
        }
        plain.cyclic(2);
        plain.cyclic(4);
        plain.pair(0, 1);
        t.cyclic(2);
        t.cyclic(4);
        t.pair(0, 1);
        if (kind == 12) {
            return 2;
        }
        plain.pair(0, 0);
        plain.pair(3, 0);
        t.pair(0, 0);
        return t.pair(3, 0);
    }

    private void compareAll(int kind, int p, int r) {
        GroupTowers t = new GroupTowers();
        Plain plain = new Plain();
        int g = begin(t, plain, kind);
        int n = plain.order(g);
        String of = "group " + kind + ", " + p + ", " + r;
        plain.module(g, p, r);
        t.module(g, p, r);
        compare(t, plain, of + ", at rest", n, r);
        int moved = 0;
        for (int attempt = 0; attempt < 3000 && moved < ACTIONS; attempt++) {
            for (int x = 0; x < n; x++) {
                setSome(t, plain, g, x, p, r);
            }
            if (plain.sound(0) == 0) {
                moved++;
                compare(t, plain, of + ", attempt " + attempt, n, r);
            } else if (attempt % 50 == 0) {
                Check.due(of + ": sound", t.sound(0), plain.sound(0));
                Check.due(of + ": dimension", t.dimension(0, 0), plain.dimension(0, 0));
            }
        }
    }

    private final int[][] matrix = new int[8][];

    /** Some matrix for what is no product of those ahead, else their product. */
    private void setSome(GroupTowers t, Plain plain, int g, int x, int p, int r) {
        matrix[x] = null;
        if (x == 0) {
            matrix[0] = new int[] {1, 0, 0, r - 1};
        }
        for (int a = 0; a < x && matrix[x] == null; a++) {
            for (int b = 0; b < x && matrix[x] == null; b++) {
                if (plain.product(g, a, b) == x && a != 0 && b != 0) {
                    int[] s = matrix[a];
                    int[] u = matrix[b];
                    matrix[x] = new int[] {(s[0] * u[0] + s[1] * u[2]) % p, (s[0] * u[1] + s[1] * u[3]) % p,
                        (s[2] * u[0] + s[3] * u[2]) % p, (s[2] * u[1] + s[3] * u[3]) % p};
                }
            }
        }
        if (matrix[x] == null) {
            matrix[x] = r == 1 ? new int[] {1 + below(p - 1), 0, 0, 0}
                : new int[] {below(p), below(p), below(p), below(p)};
        }
        int[] m = matrix[x];
        plain.acts(0, x, m[0], m[1], m[2], m[3]);
        Check.due("acts", t.acts(0, x, m[0], m[1], m[2], m[3]), 1);
    }

    private void compare(GroupTowers t, Plain plain, String of, int n, int r) {
        Check.due(of + ": sound", t.sound(0), 0);
        for (int what = 0; what < 7; what++) {
            Check.due(of + ": dimension " + what, t.dimension(0, what), plain.dimension(0, what));
        }
        int classes = 1;
        while (plain.times(0, classes, 1) >= 0) {
            classes *= 2;
        }
        for (int again = 0; again < 3; again++) {
            int c = below(classes);
            for (int x = 0; x < n; x++) {
                for (int y = 0; y < n; y++) {
                    for (int i = 0; i < r; i++) {
                        Check.due(of + ": twist " + c, t.twist(0, c, x, y, i), plain.twist(0, c, x, y, i));
                    }
                }
            }
            Check.due(of + ": parts " + c, t.parts(0, c), plain.parts(0, c));
            int d = below(classes);
            Check.due(of + ": sum " + c + " " + d, t.sum(0, c, d), plain.sum(0, c, d));
            compareOver(t, plain, of, c);
        }
        Check.due(of + ": parts 0", t.parts(0, 0), plain.parts(0, 0));
    }

    private static void compareOver(GroupTowers t, Plain plain, String of, int c) {
        int g = plain.over(0, c);
        Check.due(of + ": over " + c, t.over(0, c), g);
        for (int x = 0; x < plain.order(g); x++) {
            for (int y = 0; y < plain.order(g); y++) {
                Check.due(of + ": product over " + c, t.product(g, x, y), plain.product(g, x, y));
            }
        }
        if (g >= 0) {
            plain.drop();
            t.drop();
        }
    }
}
