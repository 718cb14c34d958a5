/** Promises 16 to 19 and 27, and what 26 says of modules. */
public final class ModulesTest {
    private ModulesTest() {
    }

    public static void main(String[] args) {
        module();
        moduleFull();
        acts();
        sound();
        dimensionRefused();
        dimensions();
        leave();
        Check.end();
    }

    private static void module() {
        GroupTowers t = new GroupTowers();
        t.cyclic(8);
        t.cyclic(9);
        int[][] wrong = {{-1, 2, 1}, {2, 2, 1}, {1, 2, 1}, {0, 1, 1}, {0, 4, 1}, {0, 6, 1}, {0, 7, 1}, {0, 0, 1},
            {0, -2, 1}, {0, 2, 0}, {0, 2, 3}, {0, 2, -1}};
        for (int[] w : wrong) {
            Check.due("module " + w[0] + " " + w[1] + " " + w[2], t.module(w[0], w[1], w[2]), GroupTowers.BAD);
        }
        Check.due("none of these", t.count(1), 0);
        int number = 0;
        for (int p : new int[] {2, 3, 5}) {
            for (int r = 1; r <= 2; r++) {
                Check.due("module of " + p + ", " + r, t.module(0, p, r), number);
                Check.due("at first all are the unit", t.sound(number), 0);
                Check.due("and move nothing", t.dimension(number, 0), r);
                number++;
            }
        }
        Check.due("count", t.count(1), 6);
    }

    private static void moduleFull() {
        GroupTowers t = new GroupTowers();
        t.cyclic(1);
        t.cyclic(9);
        for (int m = 0; m < 6; m++) {
            Check.due("the next number", t.module(0, 2, 1), m);
        }
        Check.due("seventh", t.module(0, 2, 1), GroupTowers.FULL);
        Check.due("seventh of too great an order", t.module(1, 2, 1), GroupTowers.BAD);
        Check.due("seventh with no prime", t.module(0, 4, 1), GroupTowers.BAD);
        Check.due("count", t.count(1), 6);
        Check.due("one leaves", t.leave(), 5);
        Check.due("room again", t.module(0, 3, 2), 5);
    }

    private static void acts() {
        GroupTowers t = new GroupTowers();
        t.cyclic(2);
        t.module(0, 3, 1);
        t.module(0, 5, 2);
        int[][] wrong = {{-1, 0, 1, 0, 0, 0}, {2, 0, 1, 0, 0, 0}, {0, -1, 1, 0, 0, 0}, {0, 2, 1, 0, 0, 0},
            {0, 1, 3, 0, 0, 0}, {0, 1, -1, 0, 0, 0}, {0, 1, 2, 1, 0, 0}, {0, 1, 2, 0, 1, 0}, {0, 1, 2, 0, 0, 1},
            {1, 1, 5, 0, 0, 1}, {1, 1, 4, 5, 0, 1}, {1, 1, 4, 0, 5, 1}, {1, 1, 4, 0, 0, 5}, {1, 1, 4, -1, 0, 1},
            {1, 1, 4, 0, -1, 1}, {1, 1, 4, 0, 0, -1}};
        for (int[] w : wrong) {
            Check.due("acts " + java.util.Arrays.toString(w), t.acts(w[0], w[1], w[2], w[3], w[4], w[5]),
                GroupTowers.BAD);
        }
        Check.due("what is refused", t.dimension(0, 0), 1);
        Check.due("what is refused", t.dimension(1, 0), 2);
        Check.due("rank 1", t.acts(0, 1, 2, 0, 0, 0), 1);
        Check.due("now it moves", t.dimension(0, 0), 0);
        Check.due("rank 2", t.acts(1, 1, 4, 0, 0, 1), 1);
        Check.due("now some move", t.dimension(1, 0), 1);
        Check.due("the greatest numbers", t.acts(1, 1, 4, 4, 4, 4), 1);
        Check.due("which are not sound", t.sound(1), 4);
        Check.due("the least numbers", t.acts(1, 1, 0, 0, 0, 0), 1);
        Check.due("which are not sound", t.sound(1), 4);
    }

    private static void sound() {
        GroupTowers t = new GroupTowers();
        t.cyclic(4);
        t.module(0, 5, 1);
        Check.due("no module", t.sound(1), GroupTowers.BAD);
        Check.due("module below", t.sound(-1), GroupTowers.BAD);
        t.acts(0, 1, 2, 0, 0, 0);
        Check.due("1 1 is 2", t.sound(0), 1 + 4 + 1);
        t.acts(0, 2, 4, 0, 0, 0);
        Check.due("1 2 is 3", t.sound(0), 1 + 4 + 2);
        t.acts(0, 3, 3, 0, 0, 0);
        Check.due("by powers of 2", t.sound(0), 0);
        t.acts(0, 0, 2, 0, 0, 0);
        Check.due("0 moves", t.sound(0), 1000);
        t.acts(0, 0, 1, 0, 0, 0);
        t.acts(0, 3, 2, 0, 0, 0);
        Check.due("the first that is not so", t.sound(0), 1 + 4 + 2);
        t.dihedral(3);
        t.module(1, 2, 2);
        // Turns by 0 1 / 1 1; the flip 3 changes places, 4 is 1 3, 5 is 2 3.
        int[][] matrices = {{1, 0, 0, 1}, {0, 1, 1, 1}, {1, 1, 1, 0}, {0, 1, 1, 0}};
        for (int x = 0; x < 4; x++) {
            t.acts(1, x, matrices[x][0], matrices[x][1], matrices[x][2], matrices[x][3]);
        }
        t.acts(1, 4, 1, 0, 1, 1);
        t.acts(1, 5, 1, 1, 0, 1);
        Check.due("the order of products", t.sound(1), 0);
        t.acts(1, 4, 1, 1, 0, 1);
        t.acts(1, 5, 1, 0, 1, 1);
        Check.due("the other order", t.sound(1), 1 + 6 + 3);
        t.acts(1, 0, 1, 1, 0, 1);
        Check.due("0 moves", t.sound(1), 1000);
        t.acts(1, 0, 0, 0, 0, 0);
        Check.due("0 brings all to 0", t.sound(1), 1000);
    }

    private static void dimensionRefused() {
        GroupTowers t = new GroupTowers();
        t.cyclic(2);
        t.module(0, 2, 1);
        Check.due("no module", t.dimension(1, 0), GroupTowers.BAD);
        Check.due("module below", t.dimension(-1, 0), GroupTowers.BAD);
        Check.due("what below", t.dimension(0, -1), GroupTowers.BAD);
        Check.due("what above", t.dimension(0, 7), GroupTowers.BAD);
        t.acts(0, 1, 0, 0, 0, 0);
        for (int what = 0; what < 7; what++) {
            Check.due("not sound, " + what, t.dimension(0, what), GroupTowers.STATE);
        }
        Check.due("not sound, what above", t.dimension(0, 7), GroupTowers.BAD);
        t.acts(0, 1, 1, 0, 0, 0);
        Check.due("sound again", t.dimension(0, 5), 1);
    }

    private static void dimensionsAre(String of, GroupTowers t, int m, int... due) {
        for (int what = 0; what < 7; what++) {
            Check.due(of + ": dimension " + what, t.dimension(m, what), due[what]);
        }
    }

    private static void dimensions() {
        GroupTowers t = new GroupTowers();
        t.cyclic(1);
        t.module(0, 5, 2);
        dimensionsAre("one element", t, 0, 2, 0, 0, 0, 0, 0, 0);
        t.cyclic(2);
        t.pair(1, 1);
        t.pair(2, 1);
        t.module(3, 2, 2);
        dimensionsAre("2 with 2 with 2", t, 1, 2, 6, 0, 20, 8, 12, 6);
        t.module(3, 2, 1);
        dimensionsAre("2 with 2 with 2, rank 1", t, 2, 1, 3, 0, 10, 4, 6, 3);
        t.cyclic(3);
        t.module(4, 3, 2);
        for (int x = 1; x < 3; x++) {
            t.acts(3, x, 1, x, 0, 1);
        }
        dimensionsAre("3 by shears", t, 3, 1, 2, 1, 3, 2, 1, 1);
        t.acts(3, 1, 1, 2, 0, 1);
        t.acts(3, 2, 1, 1, 0, 1);
        dimensionsAre("3 by the other shears", t, 3, 1, 2, 1, 3, 2, 1, 1);
        t.module(4, 2, 2);
        t.acts(4, 1, 0, 1, 1, 1);
        t.acts(4, 2, 1, 1, 1, 0);
        dimensionsAre("3 by turns of 4 vectors", t, 4, 0, 2, 2, 2, 2, 0, 0);
        t.module(1, 3, 1);
        t.acts(5, 1, 2, 0, 0, 0);
        dimensionsAre("2 by opposites", t, 5, 0, 1, 1, 0, 0, 0, 0);
        t.acts(5, 1, 1, 0, 0, 0);
        dimensionsAre("the same, at rest", t, 5, 1, 0, 0, 1, 1, 0, 0);
    }

    private static void leave() {
        GroupTowers t = new GroupTowers();
        Check.due("none", t.leave(), GroupTowers.NONE);
        t.cyclic(2);
        t.module(0, 3, 1);
        t.module(0, 2, 1);
        t.acts(1, 1, 0, 0, 0, 0);
        Check.due("the latest", t.leave(), 1);
        Check.due("it has left", t.sound(1), GroupTowers.BAD);
        Check.due("the other has not", t.sound(0), 0);
        Check.due("count", t.count(1), 1);
        Check.due("a new one", t.module(0, 2, 1), 1);
        Check.due("has the units again", t.sound(1), 0);
        Check.due("and its own dimensions", t.dimension(1, 5), 1);
        Check.due("it leaves", t.leave(), 1);
        Check.due("the other leaves", t.leave(), 0);
        Check.due("none is left", t.leave(), GroupTowers.NONE);
        Check.due("count", t.count(1), 0);
    }
}
