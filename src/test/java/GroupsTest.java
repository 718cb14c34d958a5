/** Promises 1 to 5, 9 to 14 and what 26 says of groups. */
public final class GroupsTest {
    private GroupsTest() {
    }

    public static void main(String[] args) {
        newObject();
        cyclic();
        dihedral();
        quaternions();
        pair();
        drop();
        orderAndProduct();
        element();
        about();
        aboutWithManyMakers();
        made();
        Check.end();
    }

    private static void newObject() {
        GroupTowers t = new GroupTowers();
        Check.due("new: count(0)", t.count(0), 0);
        Check.due("new: count(1)", t.count(1), 0);
        Check.due("new: count(2)", t.count(2), GroupTowers.NONE);
        Check.due("new: count(3)", t.count(3), GroupTowers.BAD);
        Check.due("new: count(-1)", t.count(-1), GroupTowers.BAD);
        Check.due("new: drop", t.drop(), GroupTowers.NONE);
        Check.due("new: leave", t.leave(), GroupTowers.NONE);
        Check.due("new: order(0)", t.order(0), GroupTowers.BAD);
        Check.due("new: sound(0)", t.sound(0), GroupTowers.BAD);
        for (int k = 0; k < 4; k++) {
            Check.due("new: lay", t.lay(k, 0, 1), -11);
        }
        GroupTowers other = new GroupTowers();
        other.cyclic(3);
        other.sheet(0, 0, 5);
        Check.due("another object's groups", t.count(0), 0);
        Check.due("another object's sheets", t.count(2), GroupTowers.NONE);
    }

    private static void cyclic() {
        GroupTowers t = new GroupTowers();
        Check.due("cyclic(0)", t.cyclic(0), GroupTowers.BAD);
        Check.due("cyclic(49)", t.cyclic(49), GroupTowers.BAD);
        Check.due("cyclic(-1)", t.cyclic(-1), GroupTowers.BAD);
        Check.due("cyclic(1)", t.cyclic(1), 0);
        Check.due("cyclic(48)", t.cyclic(48), 1);
        Check.due("order of the least", t.order(0), 1);
        Check.due("0 0 of the least", t.product(0, 0, 0), 0);
        for (int x = 0; x < 48; x++) {
            for (int y = 0; y < 48; y++) {
                Check.due("cyclic 48: " + x + " " + y, t.product(1, x, y), (x + y) % 48);
            }
        }
        for (int g = 2; g < 8; g++) {
            Check.due("the next number", t.cyclic(5), g);
        }
        Check.due("ninth", t.cyclic(5), GroupTowers.FULL);
        Check.due("ninth, no number", t.cyclic(49), GroupTowers.BAD);
        Check.due("count after what was refused", t.count(0), 8);
    }

    private static void dihedral() {
        GroupTowers t = new GroupTowers();
        Check.due("dihedral(0)", t.dihedral(0), GroupTowers.BAD);
        Check.due("dihedral(25)", t.dihedral(25), GroupTowers.BAD);
        Check.due("dihedral(24)", t.dihedral(24), 0);
        Check.due("dihedral(1)", t.dihedral(1), 1);
        Check.due("dihedral(5)", t.dihedral(5), 2);
        Check.due("order of the greatest", t.order(0), 48);
        Check.due("order of the least", t.order(1), 2);
        Check.due("1 1 of the least", t.product(1, 1, 1), 0);
        Check.due("3 4", t.product(2, 3, 4), 2);
        Check.due("3 (5 + 4)", t.product(2, 3, 9), 7);
        Check.due("(5 + 1) 3", t.product(2, 6, 3), 8);
        Check.due("(5 + 1) (5 + 3)", t.product(2, 6, 8), 3);
        Check.due("(24 + 1) (24 + 23)", t.product(0, 25, 47), 2);
        for (int g = 3; g < 8; g++) {
            t.dihedral(2);
        }
        Check.due("ninth", t.dihedral(2), GroupTowers.FULL);
        Check.due("ninth, no number", t.dihedral(0), GroupTowers.BAD);
    }

    private static void quaternions() {
        GroupTowers t = new GroupTowers();
        Check.due("quaternions", t.quaternions(), 0);
        Check.due("order", t.order(0), 8);
        int[][] products = {{1, 1, 4}, {2, 2, 4}, {3, 3, 4}, {1, 2, 3}, {2, 3, 1}, {3, 1, 2}, {2, 1, 7}, {3, 2, 5},
            {1, 3, 6}, {4, 4, 0}, {4, 1, 5}, {1, 4, 5}, {5, 1, 0}, {5, 5, 4}, {6, 3, 5}, {6, 7, 1}, {0, 6, 6},
            {7, 4, 3}};
        for (int[] p : products) {
            Check.due("quaternions: " + p[0] + " " + p[1], t.product(0, p[0], p[1]), p[2]);
        }
        for (int g = 1; g < 8; g++) {
            Check.due("the next number", t.quaternions(), g);
        }
        Check.due("ninth", t.quaternions(), GroupTowers.FULL);
    }

    private static void pair() {
        GroupTowers t = new GroupTowers();
        t.cyclic(3);
        t.dihedral(3);
        Check.due("pair(0, 1)", t.pair(0, 1), 2);
        Check.due("pair(1, 0)", t.pair(1, 0), 3);
        Check.due("order", t.order(2), 18);
        // (2, 4) (1, 5): 2 + 1 is 0; (3 + 1) (3 + 2) is 1 - 2, 2.
        Check.due("first ahead", t.product(2, 6 * 2 + 4, 6 + 5), 2);
        Check.due("second ahead", t.product(3, 3 * 4 + 2, 3 * 5 + 1), 6);
        Check.due("no first", t.pair(-1, 0), GroupTowers.BAD);
        Check.due("no second", t.pair(0, 4), GroupTowers.BAD);
        Check.due("54 elements", t.pair(0, 2), GroupTowers.FULL);
        t.cyclic(8);
        Check.due("48 elements", t.pair(1, 4), 5);
        Check.due("order 48", t.order(5), 48);
        Check.due("a pair with itself", t.pair(0, 0), 6);
        t.cyclic(1);
        Check.due("ninth", t.pair(0, 0), GroupTowers.FULL);
        Check.due("ninth of no group", t.pair(0, 8), GroupTowers.BAD);
    }

    private static void drop() {
        GroupTowers t = new GroupTowers();
        t.cyclic(4);
        t.cyclic(3);
        t.module(0, 2, 1);
        Check.due("the latest goes", t.drop(), 1);
        Check.due("it has gone", t.order(1), GroupTowers.BAD);
        Check.due("a module is of it", t.drop(), GroupTowers.STATE);
        Check.due("what is refused", t.order(0), 4);
        t.leave();
        Check.due("no module is of it", t.drop(), 0);
        Check.due("none", t.drop(), GroupTowers.NONE);
        t.quaternions();
        Check.due("makers of the first", t.about(0, 5), 2);
        Check.due("again", t.drop(), 0);
        Check.due("new where one went", t.dihedral(2), 0);
        Check.due("its order", t.order(0), 4);
        t.drop();
        t.cyclic(6);
        Check.due("makers of the new one", t.about(0, 5), 1);
        Check.due("inverse of the new one", t.element(0, 1, 0), 5);
    }

    private static void orderAndProduct() {
        GroupTowers t = new GroupTowers();
        t.cyclic(7);
        Check.due("order", t.order(0), 7);
        Check.due("order(-1)", t.order(-1), GroupTowers.BAD);
        Check.due("order(1)", t.order(1), GroupTowers.BAD);
        Check.due("product", t.product(0, 6, 6), 5);
        Check.due("product of no group", t.product(1, 0, 0), GroupTowers.BAD);
        Check.due("product of no x", t.product(0, 7, 0), GroupTowers.BAD);
        Check.due("product of no y", t.product(0, 0, 7), GroupTowers.BAD);
        Check.due("product of x below", t.product(0, -1, 0), GroupTowers.BAD);
        Check.due("product of y below", t.product(0, 0, -1), GroupTowers.BAD);
    }

    private static void element() {
        GroupTowers t = new GroupTowers();
        t.dihedral(6);
        int[][] due = {{0, 0, 0}, {2, 0, 4}, {8, 0, 8}, {0, 1, 1}, {1, 1, 6}, {2, 1, 3}, {3, 1, 2}, {9, 1, 2},
            {0, 2, 12}, {3, 2, 12}, {1, 2, 6}, {7, 2, 4}, {5, 3, 1}, {4, 3, 2}, {3, 3, 3}, {10, 3, 6}, {11, 3, 7},
            {0, 3, 0}};
        for (int[] d : due) {
            Check.due("dihedral 6: element " + d[0] + ", " + d[1], t.element(0, d[0], d[1]), d[2]);
        }
        Check.due("no element", t.element(0, 12, 0), GroupTowers.BAD);
        Check.due("element below", t.element(0, -1, 0), GroupTowers.BAD);
        Check.due("no group", t.element(1, 0, 0), GroupTowers.BAD);
        Check.due("what below", t.element(0, 0, -1), GroupTowers.BAD);
        Check.due("what above", t.element(0, 0, 4), GroupTowers.BAD);
        t.cyclic(1);
        int[] alone = {0, 1, 1, 0};
        for (int what = 0; what < 4; what++) {
            Check.due("the one element, " + what, t.element(1, 0, what), alone[what]);
        }
    }

    private static void aboutIs(GroupTowers t, int g, int... due) {
        for (int what = 0; what < 6; what++) {
            Check.due("about(" + g + ", " + what + ") of order " + t.order(g), t.about(g, what), due[what]);
        }
    }

    private static void about() {
        GroupTowers t = new GroupTowers();
        t.cyclic(1);
        aboutIs(t, 0, 1, 1, 1, 1, 1, 0);
        t.cyclic(48);
        aboutIs(t, 1, 48, 1, 48, 48, 1, 1);
        t.dihedral(3);
        aboutIs(t, 2, 1, 3, 6, 3, 0, 2);
        t.dihedral(24);
        aboutIs(t, 3, 2, 12, 24, 15, 0, 2);
        t.pair(2, 2);
        aboutIs(t, 4, 1, 9, 6, 9, 0, 2);
        t.quaternions();
        t.pair(5, 2);
        aboutIs(t, 6, 2, 6, 12, 15, 0, 3);
        Check.due("no group", t.about(7, 0), GroupTowers.BAD);
        Check.due("group below", t.about(-1, 0), GroupTowers.BAD);
        Check.due("what below", t.about(0, -1), GroupTowers.BAD);
        Check.due("what above", t.about(0, 6), GroupTowers.BAD);
    }

    private static void aboutWithManyMakers() {
        GroupTowers t = new GroupTowers();
        t.cyclic(2);
        for (int g = 1; g < 5; g++) {
            t.pair(g - 1, 0);
            Check.due("makers of " + t.order(g), t.about(g, 5), g + 1);
        }
        aboutIs(t, 4, 32, 1, 2, 32, 1, 5);
        t.cyclic(3);
        t.pair(3, 5);
        aboutIs(t, 6, 48, 1, 6, 48, 1, 4);
        // One is enough of 2 with 3, though the first two elements with 1 and 3 make all as well.
        t.pair(0, 5);
        Check.due("makers of 2 with 3", t.about(7, 5), 1);
    }

    private static void made() {
        GroupTowers t = new GroupTowers();
        t.cyclic(12);
        Check.due("0 alone", t.made(0, 0, 0), 1);
        Check.due("4 and 6", t.made(0, 4, 6), 6);
        Check.due("8 and 8", t.made(0, 8, 8), 3);
        Check.due("3 and 4", t.made(0, 3, 4), 12);
        t.dihedral(6);
        Check.due("two flips, 3 turns apart", t.made(1, 6, 9), 4);
        Check.due("two flips, 2 turns apart", t.made(1, 6, 8), 6);
        Check.due("no group", t.made(2, 0, 0), GroupTowers.BAD);
        Check.due("no x", t.made(0, 12, 0), GroupTowers.BAD);
        Check.due("no y", t.made(0, 0, -1), GroupTowers.BAD);
        t.pair(1, 0);
        Check.due("nothing of 144", t.count(0), 2);
    }
}
