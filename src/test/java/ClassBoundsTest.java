/** Promises 20 to 25: each sentence that names a bound, by itself. */
public final class ClassBoundsTest {
    private static final int BAD = GroupTowers.BAD, STATE = GroupTowers.STATE, FULL = GroupTowers.FULL;
    private static final int NONE = GroupTowers.NONE;
    private static final int LEAST = Integer.MIN_VALUE, MOST = Integer.MAX_VALUE;
    private static final int NULL = -11, INDEX = -12, CAST = -13;
    private static final int[] PRIMES = {2, 3, 5};

    private ClassBoundsTest() {
    }

    public static void main(String[] args) {
        classesOfEachCyclicGroup();
        classesWhereOneIsAll();
        notSound();
        classesAreFoundAnew();
        twistElements();
        twistPlaces();
        twistOfZero();
        lowestDigitFirst();
        leadOfEachStandard();
        overUpTo48();
        overLastClass();
        overNinth();
        overStandsByItself();
        classOfCells();
        classOfLanes();
        classOfModuloP();
        classOfNotZeroBesideZero();
        classOfNoCocycle();
        classOfLeast();
        partsOfClassZero();
        partsOfOthers();
        sumWrapsDigitByDigit();
        timesShares();
        Check.end();
    }

    /** All calls that take a class, of which the answer is due. */
    private static void eachRefuses(String of, GroupTowers t, int m, int c, int due) {
        Check.due(of + ": twist", t.twist(m, c, 0, 0, 0), due);
        Check.due(of + ": over", t.over(m, c), due);
        Check.due(of + ": parts", t.parts(m, c), due);
        Check.due(of + ": sum", t.sum(m, c, 0), due);
        Check.due(of + ": times", t.times(m, c, 1), due);
    }

    private static void eachTakes(String of, GroupTowers t, int m, int c) {
        Check.due(of + ": twist", t.twist(m, c, 0, 0, 0), 0);
        Check.due(of + ": parts", t.parts(m, c) >= 0 ? 1 : 0, 1);
        Check.due(of + ": sum", t.sum(m, c, 0), c);
        Check.due(of + ": sum behind", t.sum(m, 0, c), c);
        Check.due(of + ": times", t.times(m, c, 1), c);
        int g = t.over(m, c);
        Check.due(of + ": over", g == FULL || g == t.count(0) - 1 ? 1 : 0, 1);
        if (g >= 0) {
            t.drop();
        }
    }

    private static int power(int p, int h) {
        return h == 0 ? 1 : p * power(p, h - 1);
    }

    /** "CLASSES are numbered from 0 to P to the H, less 1". */
    private static void classesOfEachCyclicGroup() {
        for (int n = 1; n <= 8; n++) {
            for (int p : PRIMES) {
                for (int r = 1; r <= 2; r++) {
                    GroupTowers t = new GroupTowers();
                    t.cyclic(n);
                    t.module(0, p, r);
                    String of = "of " + n + " modulo " + p + ", " + r;
                    // At rest all is bound, but where P divides n: there H is R.
                    int h = n % p == 0 ? r : 0;
                    Check.due(of + ": H", t.dimension(0, 5), h);
                    int classes = power(p, h);
                    eachTakes(of + ", the first", t, 0, 0);
                    eachTakes(of + ", the last", t, 0, classes - 1);
                    for (int c : new int[] {classes, classes + 1, MOST}) {
                        eachRefuses(of + ", above", t, 0, c, BAD);
                        Check.due(of + ", above behind", t.sum(0, 0, c), BAD);
                    }
                    for (int c : new int[] {-1, -classes, LEAST}) {
                        eachRefuses(of + ", below", t, 0, c, BAD);
                        Check.due(of + ", below behind", t.sum(0, 0, c), BAD);
                    }
                    Check.due(of + ": no group of these", t.count(0), 1);
                }
            }
        }
    }

    /** H 0: class 0 is all there is. */
    private static void classesWhereOneIsAll() {
        GroupTowers t = new GroupTowers();
        t.cyclic(3);
        t.module(0, 2, 1);
        eachTakes("3 modulo 2", t, 0, 0);
        eachRefuses("3 modulo 2, class 1", t, 0, 1, BAD);
        t.cyclic(2);
        t.module(1, 3, 1);
        t.acts(1, 1, 2, 0, 0, 0);
        eachTakes("2 by opposites", t, 1, 0);
        eachRefuses("2 by opposites, class 1", t, 1, 1, BAD);
        Check.due("twice 0", t.times(1, 0, 2), 0);
    }

    /** "of a CLASS: BAD below 0, then STATE, then BAD above; of two all of the first one ahead of the second one". */
    private static void notSound() {
        GroupTowers t = new GroupTowers();
        t.cyclic(2);
        t.module(0, 2, 1);
        t.acts(0, 1, 0, 0, 0, 0);
        for (int c : new int[] {LEAST, -2, -1}) {
            eachRefuses("not sound, below", t, 0, c, BAD);
        }
        for (int c : new int[] {0, 1, 2, 3, MOST}) {
            eachRefuses("not sound, class " + c, t, 0, c, STATE);
            for (int d : new int[] {LEAST, -1, 0, 1, 2, MOST}) {
                Check.due("not sound, " + c + " and " + d, t.sum(0, c, d), STATE);
                Check.due("not sound, -1 and " + d, t.sum(0, -1, d), BAD);
            }
        }
        t.sheet(0, 0, 4);
        Check.due("not sound: classOf", t.classOf(0, 0, 0), STATE);
        t.acts(0, 1, 1, 0, 0, 0);
        for (int d : new int[] {LEAST, -1, 2, MOST}) {
            Check.due("sound, 1 and " + d, t.sum(0, 1, d), BAD);
            Check.due("sound, " + d + " and 1", t.sum(0, d, 1), BAD);
            Check.due("sound, " + d + " twice", t.sum(0, d, d), BAD);
        }
        Check.due("sound: classOf", t.classOf(0, 0, 0), 0);
    }

    /** A class above may be one when the module acts otherwise, and the other way round. */
    private static void classesAreFoundAnew() {
        GroupTowers t = new GroupTowers();
        t.cyclic(2);
        t.module(0, 2, 2);
        eachTakes("at rest, 3", t, 0, 3);
        t.acts(0, 1, 0, 1, 1, 0);
        eachTakes("changing places, 0", t, 0, 0);
        eachRefuses("changing places, 1", t, 0, 1, BAD);
        t.acts(0, 1, 1, 1, 0, 0);
        eachRefuses("not sound, 3", t, 0, 3, STATE);
        Check.due("refused", t.acts(0, 1, 1, 0, 0, 2), BAD);
        eachRefuses("not sound still, 3", t, 0, 3, STATE);
        t.acts(0, 1, 1, 0, 0, 1);
        eachTakes("at rest again, 3", t, 0, 3);
        eachRefuses("at rest again, 4", t, 0, 4, BAD);
    }

    /** twist: x, y are 0 to n - 1. */
    private static void twistElements() {
        for (int n : new int[] {1, 2, 8}) {
            GroupTowers t = new GroupTowers();
            t.cyclic(n);
            t.module(0, 2, 1);
            for (int x : new int[] {LEAST, -1, n, n + 1, 8, MOST}) {
                Check.due("twist of " + x, t.twist(0, 0, x, 0, 0), BAD);
                Check.due("twist behind of " + x, t.twist(0, 0, 0, x, 0), BAD);
            }
            Check.due("twist of the last", t.twist(0, 0, n - 1, n - 1, 0), 0);
        }
        GroupTowers t = new GroupTowers();
        t.cyclic(8);
        t.module(0, 2, 1);
        Check.due("the last two, class 1", t.twist(0, 1, 7, 7, 0), 1);
    }

    /** "Number i (0 to R - 1)". */
    private static void twistPlaces() {
        GroupTowers t = new GroupTowers();
        t.cyclic(2);
        t.module(0, 2, 1);
        t.module(0, 2, 2);
        for (int i : new int[] {LEAST, -1, 2, 3, MOST}) {
            Check.due("rank 1: number " + i, t.twist(0, 1, 1, 1, i), BAD);
            Check.due("rank 2: number " + i, t.twist(1, 1, 1, 1, i), BAD);
            Check.due("rank 2: number " + i + " of 0", t.twist(1, 1, 0, 0, i), BAD);
        }
        Check.due("rank 1: number 1", t.twist(0, 1, 1, 1, 1), BAD);
        Check.due("rank 1: number 0", t.twist(0, 1, 1, 1, 0), 1);
        Check.due("rank 2: number 0 of class 1", t.twist(1, 1, 1, 1, 0), 1);
        Check.due("rank 2: number 1 of class 1", t.twist(1, 1, 1, 1, 1), 0);
        Check.due("rank 2: number 0 of class 2", t.twist(1, 2, 1, 1, 0), 0);
        Check.due("rank 2: number 1 of class 2", t.twist(1, 2, 1, 1, 1), 1);
    }

    /** "f(x, y) for each two that are not 0, else 0". */
    private static void twistOfZero() {
        GroupTowers t = new GroupTowers();
        t.quaternions();
        t.module(0, 2, 2);
        for (int x = 0; x < 8; x++) {
            for (int i = 0; i < 2; i++) {
                Check.due("0 with " + x, t.twist(0, 15, 0, x, i), 0);
                Check.due(x + " with 0", t.twist(0, 15, x, 0, i), 0);
            }
        }
    }

    /** "the digits of c to the base P (the lowest one first)": P - 1 and P, the last one of all. */
    private static void lowestDigitFirst() {
        for (int p : PRIMES) {
            GroupTowers t = new GroupTowers();
            t.cyclic(p);
            t.module(0, p, 2);
            // At rest numbers 0 and 1 twist by themselves; the lead of number 0's standard stands ahead.
            int x = -1;
            for (int i = p * p - 1; i >= 0; i--) {
                x = t.twist(0, 1, i / p, i % p, 0) != 0 ? i : x;
            }
            for (int c = 0; c < p * p; c++) {
                Check.due(p + ": number 0 of class " + c, t.twist(0, c, x / p, x % p, 0), c % p);
                Check.due(p + ": number 1 of class " + c, t.twist(0, c, x / p, x % p, 1), c / p);
            }
        }
    }

    /** "each one's first number that is not 0 is a 1, behind those of the ones ahead of it, and all others have 0 there". */
    private static void leadOfEachStandard() {
        GroupTowers t = new GroupTowers();
        t.cyclic(2);
        t.pair(0, 0);
        t.pair(1, 0);
        t.module(2, 2, 2);
        int behind = -1;
        for (int k = 0; k < 12; k++) {
            int lead = -1;
            for (int i = 127; i >= 0; i--) {
                lead = t.twist(0, 1 << k, i / 16, i / 2 % 8, i % 2) != 0 ? i : lead;
            }
            Check.due("standard " + k + " leads behind", lead > behind ? 1 : 0, 1);
            behind = lead;
            for (int other = 0; other < 12; other++) {
                int there = t.twist(0, 1 << other, lead / 16, lead / 2 % 8, lead % 2);
                Check.due("standard " + other + " at the lead of " + k, there, other == k ? 1 : 0);
            }
        }
    }

    /** "FULL: also an ORDER above 48": 45 is the greatest that comes, 50 the least that does not. */
    private static void overUpTo48() {
        for (int n = 1; n <= 8; n++) {
            for (int p : PRIMES) {
                for (int r = 1; r <= 2; r++) {
                    int all = n * power(p, r);
                    GroupTowers t = new GroupTowers();
                    t.cyclic(n);
                    t.module(0, p, r);
                    Check.due("over of order " + all, t.over(0, 0), all <= 48 ? 1 : FULL);
                    Check.due("its order", t.order(1), all <= 48 ? all : BAD);
                    if (all <= 48) {
                        int twice = (r == 1 ? 1 : p + 1) * (p - 2);
                        int due = power(p, r) * ((2 * n - 2) % n) + twice;
                        Check.due("the last with itself", t.product(1, all - 1, all - 1), due);
                    } else {
                        Check.due("no group of it", t.count(0), 1);
                    }
                }
            }
        }
    }

    /** The last class of 4096, over the greatest order, of the greater rank. */
    private static void overLastClass() {
        GroupTowers t = new GroupTowers();
        t.cyclic(2);
        t.pair(0, 0);
        t.pair(1, 0);
        t.module(2, 2, 2);
        Check.due("the last class", t.over(0, 4095), 3);
        Check.due("its order", t.order(3), 32);
        for (int a = 0; a < 32; a++) {
            for (int b = 0; b < 32; b++) {
                int f = t.twist(0, 4095, a / 4, b / 4, 0) + 2 * t.twist(0, 4095, a / 4, b / 4, 1);
                Check.due(a + " " + b, t.product(3, a, b), 4 * (a / 4 ^ b / 4) + (a % 4 ^ b % 4 ^ f));
            }
        }
    }

    /** "FULL". */
    private static void overNinth() {
        GroupTowers t = new GroupTowers();
        t.cyclic(2);
        t.module(0, 2, 1);
        for (int g = 1; g < 8; g++) {
            Check.due("over number " + g, t.over(0, g % 2), g);
        }
        Check.due("no ninth", t.over(0, 0), FULL);
        Check.due("no ninth of class 1", t.over(0, 1), FULL);
        Check.due("no ninth of class 2", t.over(0, 2), BAD);
        Check.due("full", t.count(0), 8);
        Check.due("the last stays", t.about(7, 2), 4);
    }

    /** What the module does later does not change the group over it. */
    private static void overStandsByItself() {
        GroupTowers t = new GroupTowers();
        t.cyclic(2);
        t.module(0, 3, 1);
        t.acts(0, 1, 2, 0, 0, 0);
        t.over(0, 0);
        t.acts(0, 1, 1, 0, 0, 0);
        t.over(0, 0);
        Check.due("by opposites", t.about(1, 4), 0);
        Check.due("at rest", t.about(2, 4), 1);
        t.leave();
        Check.due("by opposites, left", t.about(1, 4), 0);
    }

    /** "INDEX: R n n CELLS are not there". */
    private static void classOfCells() {
        for (int n = 1; n <= 8; n++) {
            for (int r = 1; r <= 2; r++) {
                GroupTowers t = new GroupTowers();
                t.cyclic(n);
                t.module(0, 2, r);
                int cells = r * n * n;
                t.sheet(0, 0, cells - 1);
                Check.due("a cell too few of " + cells, t.classOf(0, 0, 0), INDEX);
                t.sheet(0, 0, cells);
                Check.due("just enough of " + cells, t.classOf(0, 0, 0), 0);
                t.sheet(0, 0, cells + 1);
                t.lay(0, cells, 1);
                Check.due("the cell behind is not read", t.classOf(0, 0, 0), 0);
                t.lay(0, cells - 1, 1);
                Check.due("the last cell is read", t.classOf(0, 0, 0), n > 2 || n == 1 ? NONE : r);
            }
        }
    }

    /** "NULL, CAST". */
    private static void classOfLanes() {
        GroupTowers t = new GroupTowers();
        t.cyclic(1);
        t.module(0, 2, 1);
        t.sheet(0, 0, 1);
        t.sheet(1, 1, 1);
        t.sheet(3, 1, 0);
        Check.due("bytes", t.classOf(0, 0, 0), 0);
        Check.due("bytes as ints", t.classOf(0, 0, 1), CAST);
        Check.due("ints", t.classOf(0, 1, 1), 0);
        Check.due("ints as bytes", t.classOf(0, 1, 0), CAST);
        Check.due("nothing as bytes", t.classOf(0, 2, 0), NULL);
        Check.due("nothing as ints", t.classOf(0, 2, 1), NULL);
        Check.due("too few as another lane", t.classOf(0, 3, 0), CAST);
        Check.due("too few", t.classOf(0, 3, 1), INDEX);
    }

    /** "modulo P, 0 or more": of 2 modulo 2 and 5 modulo 5 a number v at (1, 1) alone, or at all places it has to be. */
    private static void classOfModuloP() {
        GroupTowers t = new GroupTowers();
        t.cyclic(2);
        t.module(0, 2, 1);
        t.sheet(0, 1, 4);
        t.sheet(1, 0, 4);
        for (int v : new int[] {0, 1, 2, 3, -1, -2, -3, 127, 128, 255, 256, MOST, LEAST, LEAST + 1}) {
            t.lay(0, 3, v);
            t.lay(1, 3, v);
            Check.due("int " + v + " modulo 2", t.classOf(0, 0, 1), Math.floorMod(v, 2));
            Check.due("byte " + v + " modulo 2", t.classOf(0, 1, 0), Math.floorMod((byte) v, 2));
        }
        t.cyclic(5);
        t.module(1, 5, 1);
        t.sheet(0, 1, 25);
        for (int v : new int[] {0, 1, 4, 5, 6, -1, -4, -5, -6, MOST, LEAST, LEAST + 1}) {
            // v where x + y is 5 or more: v times over is what 1 five times comes to.
            for (int i = 0; i < 25; i++) {
                t.lay(0, i, i / 5 + i % 5 >= 5 ? v : 0);
            }
            int one = t.twist(1, 1, 1, 1, 0) + t.twist(1, 1, 1, 2, 0) + t.twist(1, 1, 1, 3, 0) + t.twist(1, 1, 1, 4, 0);
            int due = -1;
            for (int c = 0; c < 5; c++) {
                due = Math.floorMod(c * one - v % 5, 5) == 0 ? c : due;
            }
            Check.due("int " + v + " modulo 5", t.classOf(1, 0, 1), due);
        }
    }

    /** "(or not 0, where x or y is 0)": each such place, each number; 0 modulo P is 0. */
    private static void classOfNotZeroBesideZero() {
        for (int r = 1; r <= 2; r++) {
            GroupTowers t = new GroupTowers();
            t.cyclic(3);
            t.module(0, 3, r);
            t.sheet(0, 0, 9 * r);
            for (int i = 0; i < 9 * r; i++) {
                int x = i / r / 3;
                int y = i / r % 3;
                for (int v : new int[] {1, 2, 3, -1, -3, 4}) {
                    t.lay(0, i, v);
                    if (x == 0 || y == 0) {
                        Check.due(v + " at " + x + " " + y, t.classOf(0, 0, 0), v % 3 == 0 ? 0 : NONE);
                    }
                }
                t.lay(0, i, 0);
                Check.due("0 again at " + x + " " + y, t.classOf(0, 0, 0), 0);
            }
        }
    }

    /** "it is no COCYCLE": all pairs of 3 modulo 3, of which 9 are. */
    private static void classOfNoCocycle() {
        GroupTowers t = new GroupTowers();
        t.cyclic(3);
        t.module(0, 3, 1);
        int[] found = new int[4];
        t.sheet(0, 1, 9);
        for (int code = 0; code < 81; code++) {
            int[] f = {0, 0, 0, 0, code % 3, code / 3 % 3, 0, code / 9 % 3, code / 27};
            for (int i = 4; i < 9; i++) {
                t.lay(0, i, f[i]);
            }
            boolean cocycle = true;
            for (int i = 0; i < 27; i++) {
                int x = i / 9;
                int y = i / 3 % 3;
                int z = i % 3;
                int left = f[3 * y + z] + f[3 * x + (y + z) % 3];
                int right = f[3 * ((x + y) % 3) + z] + f[3 * x + y];
                cocycle &= left % 3 == right % 3;
            }
            int c = t.classOf(0, 0, 1);
            Check.due("pair " + code + " is one", c == NONE ? 0 : 1, cocycle ? 1 : 0);
            found[c == NONE ? 3 : c]++;
        }
        for (int c = 0; c < 3; c++) {
            Check.due("pairs of class " + c, found[c], 3);
        }
        Check.due("no cocycles", found[3], 72);
    }

    /** A pair of one element has f(0, 0) alone, which is 0. */
    private static void classOfLeast() {
        GroupTowers t = new GroupTowers();
        t.cyclic(1);
        t.module(0, 5, 2);
        t.sheet(0, 0, 2);
        Check.due("0", t.classOf(0, 0, 0), 0);
        t.lay(0, 1, 5);
        Check.due("5", t.classOf(0, 0, 0), 0);
        t.lay(0, 1, 1);
        Check.due("1", t.classOf(0, 0, 0), NONE);
    }

    /** "(P to DIMENSION 1 for CLASS 0". */
    private static void partsOfClassZero() {
        for (int n = 1; n <= 8; n++) {
            for (int p : PRIMES) {
                for (int r = 1; r <= 2; r++) {
                    GroupTowers t = new GroupTowers();
                    t.cyclic(n);
                    t.module(0, p, r);
                    Check.due("of " + n + " modulo " + p + ", " + r, t.parts(0, 0), n % p == 0 ? power(p, r) : 1);
                }
            }
        }
        GroupTowers t = new GroupTowers();
        t.cyclic(2);
        t.module(0, 5, 2);
        t.acts(0, 1, 4, 0, 0, 4);
        Check.due("by opposites: all vectors", t.parts(0, 0), 25);
    }

    /** "0 for others)". */
    private static void partsOfOthers() {
        for (int p : PRIMES) {
            GroupTowers t = new GroupTowers();
            t.cyclic(p);
            t.module(0, p, 2);
            for (int c = 1; c < p * p; c++) {
                Check.due(p + ": class " + c, t.parts(0, c), 0);
            }
            Check.due(p + ": the one above", t.parts(0, p * p), BAD);
        }
    }

    /** Each digit is added modulo P; none is carried. */
    private static void sumWrapsDigitByDigit() {
        GroupTowers t = new GroupTowers();
        t.cyclic(3);
        t.module(0, 3, 2);
        Check.due("1 and 1", t.sum(0, 1, 1), 2);
        Check.due("1 and 2: nothing is carried", t.sum(0, 1, 2), 0);
        Check.due("2 and 2", t.sum(0, 2, 2), 1);
        Check.due("3 and 6", t.sum(0, 3, 6), 0);
        Check.due("8 and 8", t.sum(0, 8, 8), 4);
        Check.due("8 and 4", t.sum(0, 8, 4), 0);
        Check.due("0 and 0", t.sum(0, 0, 0), 0);
        t.cyclic(2);
        t.pair(1, 1);
        t.pair(2, 1);
        t.module(3, 2, 2);
        Check.due("4095 and 1", t.sum(1, 4095, 1), 4094);
        Check.due("2048 and 2047", t.sum(1, 2048, 2047), 4095);
        Check.due("4095 and 4095", t.sum(1, 4095, 4095), 0);
    }

    /** "(s 1 to P - 1)". */
    private static void timesShares() {
        for (int p : PRIMES) {
            GroupTowers t = new GroupTowers();
            t.cyclic(p);
            t.module(0, p, 2);
            for (int s : new int[] {LEAST, -1, 0, p, p + 1, MOST}) {
                Check.due(p + ": times " + s, t.times(0, 1, s), BAD);
            }
            for (int s = 1; s < p; s++) {
                for (int c = 0; c < p * p; c++) {
                    Check.due(p + ": " + s + " times " + c, t.times(0, c, s), c % p * s % p + p * (c / p * s % p));
                }
                Check.due(p + ": " + s + " times one above", t.times(0, p * p, s), BAD);
                Check.due(p + ": " + s + " times one below", t.times(0, -1, s), BAD);
            }
            t.acts(0, 1, 0, 0, 0, 0);
            Check.due(p + ": not sound, the greatest share", t.times(0, 0, p - 1), STATE);
            Check.due(p + ": not sound, a share above", t.times(0, 0, p), BAD);
        }
    }
}
