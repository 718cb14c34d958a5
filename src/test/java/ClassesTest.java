/** Promises 20 to 25. */
public final class ClassesTest {
    private ClassesTest() {
    }

    public static void main(String[] args) {
        orderOfRefusals();
        twist();
        standardsInOrder();
        twistKeepsTheRule();
        over();
        overWithVectorsOfTwo();
        overFull();
        classOf();
        classOfRefused();
        classOfEachClass();
        parts();
        sumAndTimes();
        Check.end();
    }

    /** Group 0 is 2; module 0 is sound with 2 classes, module 1 is not sound. */
    private static GroupTowers withModules() {
        GroupTowers t = new GroupTowers();
        t.cyclic(2);
        t.module(0, 2, 1);
        t.module(0, 2, 1);
        t.acts(1, 1, 0, 0, 0, 0);
        return t;
    }

    private static void orderOfRefusals() {
        GroupTowers t = withModules();
        int bad = GroupTowers.BAD;
        int state = GroupTowers.STATE;
        int[][] refused = {{0, -1, bad}, {0, 2, bad}, {0, Integer.MAX_VALUE, bad}, {0, Integer.MIN_VALUE, bad},
            {1, -1, bad}, {1, 0, state}, {1, 2, state}, {1, Integer.MAX_VALUE, state}, {2, 0, bad}, {-1, 0, bad}};
        for (int[] r : refused) {
            String of = " of class " + r[1] + " of module " + r[0];
            Check.due("twist" + of, t.twist(r[0], r[1], 1, 1, 0), r[2]);
            Check.due("over" + of, t.over(r[0], r[1]), r[2]);
            Check.due("parts" + of, t.parts(r[0], r[1]), r[2]);
            Check.due("sum" + of, t.sum(r[0], r[1], 1), r[2]);
            Check.due("times" + of, t.times(r[0], r[1], 1), r[2]);
        }
        Check.due("no group by what is refused", t.count(0), 1);
        Check.due("first below, second any", t.sum(1, -1, 0), bad);
        Check.due("first any, second below", t.sum(1, 0, -1), state);
        Check.due("first above, second below", t.sum(1, 5, -1), state);
        Check.due("second below", t.sum(0, 0, -1), bad);
        Check.due("second above", t.sum(0, 0, 2), bad);
        Check.due("not sound, no element x", t.twist(1, 0, 2, 0, 0), bad);
        Check.due("not sound, no element y", t.twist(1, 0, 0, 2, 0), bad);
        Check.due("not sound, no place", t.twist(1, 0, 0, 0, 1), bad);
        Check.due("not sound, no share", t.times(1, 0, 2), bad);
        Check.due("no element x", t.twist(0, 0, -1, 0, 0), bad);
        Check.due("no element y", t.twist(0, 0, 0, -1, 0), bad);
        Check.due("no place", t.twist(0, 0, 0, 0, -1), bad);
        Check.due("no share", t.times(0, 1, 0), bad);
        Check.due("a share above", t.times(0, 1, 2), bad);
        Check.due("a share below", t.times(0, 1, -1), bad);
    }

    private static void twist() {
        GroupTowers t = new GroupTowers();
        t.cyclic(3);
        t.module(0, 3, 1);
        // Bound ones are shares of 2 1 / 1 2, led at (1, 1); cocycles have f(1, 2) = f(2, 1) = f(2, 2) + f(1, 1).
        int[] first = {0, 1, 1, 1};
        for (int i = 0; i < 4; i++) {
            for (int c = 0; c < 3; c++) {
                Check.due("3: class " + c + ", " + i, t.twist(0, c, 1 + i / 2, 1 + i % 2, 0), c * first[i] % 3);
            }
        }
        for (int x = 0; x < 3; x++) {
            Check.due("0 with " + x, t.twist(0, 2, 0, x, 0), 0);
            Check.due(x + " with 0", t.twist(0, 2, x, 0, 0), 0);
        }
        t.module(0, 3, 2);
        // With rank 2 at rest each number has its own standard: that of number 0 stands ahead.
        for (int x = 1; x < 3; x++) {
            for (int y = 1; y < 3; y++) {
                int one = t.twist(0, 1, x, y, 0);
                Check.due("class 1, number 0", t.twist(1, 1, x, y, 0), one);
                Check.due("class 1, number 1", t.twist(1, 1, x, y, 1), 0);
                Check.due("class 3, number 0", t.twist(1, 3, x, y, 0), 0);
                Check.due("class 3, number 1", t.twist(1, 3, x, y, 1), one);
                Check.due("class 5, number 0", t.twist(1, 5, x, y, 0), 2 * one % 3);
                Check.due("class 5, number 1", t.twist(1, 5, x, y, 1), one);
            }
        }
    }

    /** Of 2 with 2 there is one bound pair but 0: 0 1 1 / 1 0 1 / 1 1 0, led at (1, 2). */
    private static void standardsInOrder() {
        GroupTowers t = new GroupTowers();
        t.cyclic(2);
        t.pair(0, 0);
        t.module(1, 2, 1);
        int[][] standards = {{1, 0, 1, 0, 0, 0, 1, 0, 1}, {0, 0, 0, 1, 0, 1, 1, 0, 1}, {0, 0, 0, 0, 1, 1, 0, 1, 1}};
        for (int c = 0; c < 8; c++) {
            for (int i = 0; i < 9; i++) {
                int due = 0;
                for (int k = 0; k < 3; k++) {
                    due ^= (c >> k & 1) * standards[k][i];
                }
                Check.due("2 with 2: class " + c + ", " + i, t.twist(0, c, 1 + i / 3, 1 + i % 3, 0), due);
            }
        }
    }

    private static void twistKeepsTheRule() {
        GroupTowers t = new GroupTowers();
        t.cyclic(2);
        t.pair(0, 0);
        t.pair(1, 0);
        t.module(2, 2, 1);
        for (int c = 0; c < 64; c++) {
            for (int i = 0; i < 512; i++) {
                int x = i / 64;
                int y = i / 8 % 8;
                int z = i % 8;
                int left = t.twist(0, c, y, z, 0) + t.twist(0, c, x, t.product(2, y, z), 0);
                int right = t.twist(0, c, t.product(2, x, y), z, 0) + t.twist(0, c, x, y, 0);
                Check.due("class " + c + ": " + x + " " + y + " " + z, left % 2, right % 2);
            }
        }
    }

    private static void over() {
        GroupTowers t = new GroupTowers();
        t.cyclic(3);
        t.module(0, 3, 1);
        Check.due("class 0", t.over(0, 0), 1);
        Check.due("class 1", t.over(0, 1), 2);
        Check.due("order", t.order(1), 9);
        Check.due("class 0 falls apart", t.about(1, 2), 3);
        Check.due("class 1 does not", t.about(2, 2), 9);
        for (int a = 0; a < 9; a++) {
            for (int b = 0; b < 9; b++) {
                int v = (a % 3 + b % 3 + t.twist(0, 1, a / 3, b / 3, 0)) % 3;
                Check.due("product over: " + a + " " + b, t.product(2, a, b), 3 * ((a / 3 + b / 3) % 3) + v);
            }
        }
        t.cyclic(2);
        t.module(3, 5, 1);
        t.acts(1, 1, 4, 0, 0, 0);
        Check.due("2 by opposites of 5", t.over(1, 0), 4);
        t.dihedral(5);
        Check.due("is dihedral 5", t.same(4, 5, 100), 1);
        Check.due("the element ahead acts", t.product(4, 5, 1), 9);
        Check.due("the one behind does not", t.product(4, 1, 5), 6);
        Check.due("it stands on without its module", t.leave() + t.product(4, 5, 1), 10);
    }

    /** Vectors of two numbers: v0 + 3 v1, moved by rows. */
    private static void overWithVectorsOfTwo() {
        GroupTowers t = new GroupTowers();
        t.cyclic(4);
        t.module(0, 3, 2);
        // 1 sends (v0, v1) to (2 v1, v0).
        t.acts(0, 1, 0, 2, 1, 0);
        t.acts(0, 2, 2, 0, 0, 2);
        t.acts(0, 3, 0, 1, 2, 0);
        Check.due("sound", t.sound(0), 0);
        Check.due("order", t.over(0, 0), 1);
        Check.due("36 elements", t.order(1), 36);
        Check.due("(0, 1) with ((1, 0), 0)", t.product(1, 9, 1), 9 + 3);
        Check.due("(0, 1) with ((0, 1), 0)", t.product(1, 9, 3), 9 + 2);
        Check.due("((1, 2), 1) with ((2, 2), 3)", t.product(1, 9 + 7, 27 + 8), 2 + 3);
        Check.due("no centre", t.about(1, 0), 1);
    }

    private static void overFull() {
        GroupTowers t = new GroupTowers();
        t.cyclic(2);
        t.module(0, 5, 2);
        Check.due("50 elements", t.over(0, 0), GroupTowers.FULL);
        Check.due("50 elements, no class", t.over(0, 1), GroupTowers.BAD);
        t.dihedral(4);
        t.module(1, 5, 1);
        Check.due("40 elements", t.over(1, 0), 2);
        t.cyclic(6);
        t.module(3, 2, 2);
        t.acts(2, 1, 0, 0, 0, 0);
        for (int g = 4; g < 8; g++) {
            t.cyclic(1);
        }
        Check.due("ninth", t.over(1, 0), GroupTowers.FULL);
        Check.due("ninth of no class", t.over(1, 1), GroupTowers.BAD);
        Check.due("ninth of what is not sound", t.over(2, 0), GroupTowers.STATE);
        t.leave();
        t.drop();
        Check.due("room again", t.over(1, 0), 7);
    }

    private static void classOf() {
        GroupTowers t = new GroupTowers();
        t.cyclic(2);
        t.module(0, 5, 1);
        t.module(0, 2, 2);
        t.sheet(0, 1, 4);
        Check.due("0", t.classOf(0, 0, 1), 0);
        t.lay(0, 3, -13);
        // 2 is no square away from 0 modulo 5: all pairs of 2 are bound.
        Check.due("bound", t.classOf(0, 0, 1), 0);
        t.lay(0, 1, 5);
        t.lay(0, 0, -10);
        Check.due("5 and -10 are 0", t.classOf(0, 0, 1), 0);
        t.lay(0, 1, 4);
        Check.due("not 0 at (0, 1)", t.classOf(0, 0, 1), GroupTowers.NONE);
        t.lay(0, 1, 0);
        t.lay(0, 2, -1);
        Check.due("not 0 at (1, 0)", t.classOf(0, 0, 1), GroupTowers.NONE);
        t.sheet(0, 0, 8);
        t.lay(0, 6, -1);
        Check.due("number 0 of f(1, 1)", t.classOf(1, 0, 0), 1);
        t.lay(0, 7, 3);
        Check.due("both numbers", t.classOf(1, 0, 0), 3);
        t.lay(0, 6, 2);
        Check.due("number 1 of f(1, 1)", t.classOf(1, 0, 0), 2);
        t.cyclic(3);
        t.module(1, 2, 1);
        t.sheet(1, 0, 9);
        t.lay(1, 4, 1);
        Check.due("no cocycle", t.classOf(2, 1, 0), GroupTowers.NONE);
        // By opposites f(1, 1) is its own opposite: 0.
        t.module(0, 3, 1);
        t.acts(3, 1, 2, 0, 0, 0);
        t.sheet(2, 0, 4);
        Check.due("0 by opposites", t.classOf(3, 2, 0), 0);
        t.lay(2, 3, 1);
        Check.due("no cocycle by opposites", t.classOf(3, 2, 0), GroupTowers.NONE);
    }

    private static void classOfRefused() {
        GroupTowers t = withModules();
        t.sheet(0, 0, 4);
        t.sheet(1, 1, 3);
        Check.due("no module", t.classOf(2, 0, 0), GroupTowers.BAD);
        Check.due("no sheet", t.classOf(0, 4, 0), GroupTowers.BAD);
        Check.due("sheet below", t.classOf(0, -1, 0), GroupTowers.BAD);
        Check.due("no lane", t.classOf(0, 0, 2), GroupTowers.BAD);
        Check.due("lane below", t.classOf(0, 0, -1), GroupTowers.BAD);
        Check.due("not sound, no lane", t.classOf(1, 0, 2), GroupTowers.BAD);
        Check.due("not sound, no sheet", t.classOf(1, 4, 0), GroupTowers.BAD);
        Check.due("not sound, nothing", t.classOf(1, 2, 0), GroupTowers.STATE);
        Check.due("nothing", t.classOf(0, 2, 0), -11);
        Check.due("another lane", t.classOf(0, 0, 1), -13);
        Check.due("another lane, too few", t.classOf(0, 1, 0), -13);
        Check.due("too few", t.classOf(0, 1, 1), -12);
        Check.due("enough", t.classOf(0, 0, 0), 0);
        t.quaternions();
        t.module(1, 2, 2);
        t.sheet(3, 0, 127);
        Check.due("127 of 128", t.classOf(2, 3, 0), -12);
        t.sheet(3, 0, 128);
        Check.due("128", t.classOf(2, 3, 0), 0);
    }

    /** Each class's own pair, and that with a bound one added. */
    private static void classOfEachClass() {
        GroupTowers t = new GroupTowers();
        t.cyclic(4);
        t.cyclic(2);
        t.pair(0, 1);
        t.module(2, 2, 1);
        int[] h = {0, 1, 0, 1, 1, 0, 0, 1};
        Check.due("classes", t.dimension(0, 5), 3);
        GroupTowers read = null;
        for (int c = 0; c < 8; c++) {
            read = new GroupTowers();
            read.cyclic(4);
            read.cyclic(2);
            read.pair(0, 1);
            read.module(2, 2, 1);
            read.sheet(2, 0, 64);
            read.sheet(3, 1, 144);
            for (int x = 0; x < 8; x++) {
                for (int y = 0; y < 8; y++) {
                    int f = t.twist(0, c, x, y, 0);
                    read.lay(2, 8 * x + y, f);
                    read.lay(3, 8 * x + y, f + h[x] + h[y] - h[t.product(2, x, y)]);
                }
            }
            Check.due("its own pair", read.classOf(0, 2, 0), c);
            Check.due("away by a bound one", read.classOf(0, 3, 1), c);
        }
    }

    private static void parts() {
        GroupTowers t = new GroupTowers();
        t.cyclic(2);
        t.module(0, 3, 1);
        Check.due("at rest: one", t.parts(0, 0), 1);
        t.acts(0, 1, 2, 0, 0, 0);
        Check.due("by opposites: 3 flips", t.parts(0, 0), 3);
        t.module(0, 2, 2);
        Check.due("class 0", t.parts(1, 0), 4);
        for (int c = 1; c < 4; c++) {
            Check.due("class " + c, t.parts(1, c), 0);
        }
        t.pair(0, 0);
        t.pair(1, 0);
        t.module(2, 2, 2);
        Check.due("the most", t.parts(2, 0), 64);
        Check.due("the last class", t.parts(2, 4095), 0);
        Check.due("above", t.parts(2, 4096), GroupTowers.BAD);
        t.cyclic(1);
        t.module(3, 5, 2);
        Check.due("of one element", t.parts(3, 0), 1);
        Check.due("of one element, class 1", t.parts(3, 1), GroupTowers.BAD);
    }

    private static void sumAndTimes() {
        GroupTowers t = new GroupTowers();
        t.cyclic(5);
        t.module(0, 5, 2);
        for (int c = 0; c < 25; c++) {
            for (int d = 0; d < 25; d++) {
                Check.due("sum " + c + " " + d, t.sum(0, c, d), (c + d) % 5 + 5 * ((c / 5 + d / 5) % 5));
            }
            for (int s = 1; s < 5; s++) {
                Check.due("times " + c + " " + s, t.times(0, c, s), c * s % 5 + 5 * (c / 5 * s % 5));
            }
        }
        Check.due("share 0", t.times(0, 1, 0), GroupTowers.BAD);
        Check.due("share 5", t.times(0, 1, 5), GroupTowers.BAD);
    }
}
