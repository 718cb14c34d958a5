/** Promise 15. */
public final class SameTest {
    private SameTest() {
    }

    public static void main(String[] args) {
        wrongInputs();
        triesFrom0To20000();
        withoutTry();
        unlikeIsAheadOfSpent();
        triesAreCounted();
        unlikeAfterAllTries();
        unlikeByProductsAlone();
        leastMakers();
        renamed();
        spentOnManyMakers();
        lastElements();
        whereAGreaterGroupWent();
        Check.end();
    }

    private static void wrongInputs() {
        GroupTowers t = new GroupTowers();
        t.cyclic(3);
        Check.due("no first", t.same(-1, 0, 5), GroupTowers.BAD);
        Check.due("no second", t.same(0, 1, 5), GroupTowers.BAD);
        Check.due("tries below", t.same(0, 0, -1), GroupTowers.BAD);
        Check.due("tries above", t.same(0, 0, 20001), GroupTowers.BAD);
        Check.due("the most tries", t.same(0, 0, 20000), 1);
        Check.due("one try", t.same(0, 0, 1), 1);
        Check.due("no try", t.same(0, 0, 0), GroupTowers.SPENT);
    }

    /** "n tries (0 to 20000)". */
    private static void triesFrom0To20000() {
        GroupTowers t = new GroupTowers();
        t.cyclic(2);
        t.cyclic(3);
        for (int n : new int[] {Integer.MIN_VALUE, -20000, -1, 20001, 20002, Integer.MAX_VALUE}) {
            Check.due("alike, " + n + " tries", t.same(0, 0, n), GroupTowers.BAD);
            Check.due("unlike, " + n + " tries", t.same(0, 1, n), GroupTowers.BAD);
            Check.due("no first, " + n + " tries", t.same(2, 1, n), GroupTowers.BAD);
        }
        Check.due("alike, 0 tries", t.same(0, 0, 0), GroupTowers.SPENT);
        Check.due("alike, 20000 tries", t.same(0, 0, 20000), 1);
        Check.due("unlike, 0 tries", t.same(0, 1, 0), 0);
        Check.due("unlike, 20000 tries", t.same(0, 1, 20000), 0);
        Check.due("no first, 0 tries", t.same(-1, 0, 0), GroupTowers.BAD);
        Check.due("no second, 0 tries", t.same(0, -1, 0), GroupTowers.BAD);
        Check.due("no second, 20000 tries", t.same(0, 2, 20000), GroupTowers.BAD);
    }

    /** "0 without a try": even of none that is left, where the orders, or those of elements, are unlike. */
    private static void unlikeIsAheadOfSpent() {
        GroupTowers t = new GroupTowers();
        t.cyclic(4);
        t.dihedral(2);
        t.cyclic(48);
        t.cyclic(47);
        t.dihedral(24);
        Check.due("4 and 2 with 2", t.same(0, 1, 0), 0);
        Check.due("2 with 2 and 4", t.same(1, 0, 0), 0);
        Check.due("48 and 47", t.same(2, 3, 0), 0);
        Check.due("48 and dihedral 24", t.same(2, 4, 0), 0);
        Check.due("dihedral 24 and itself", t.same(4, 4, 0), GroupTowers.SPENT);
    }

    private static void withoutTry() {
        GroupTowers t = new GroupTowers();
        t.cyclic(8);
        t.quaternions();
        t.dihedral(4);
        t.cyclic(7);
        Check.due("unlike by order", t.same(0, 3, 0), 0);
        Check.due("unlike by orders of elements", t.same(1, 2, 0), 0);
        Check.due("the other way round", t.same(2, 1, 0), 0);
        t.cyclic(1);
        Check.due("of one element, no try", t.same(4, 4, 0), GroupTowers.SPENT);
        Check.due("of one element, one try", t.same(4, 4, 1), 1);
    }

    /** 2 with 2 is made by 1 and 2: of rows of 1, 2, 3 the second one, 1 2, is the first that fits. */
    private static void triesAreCounted() {
        GroupTowers t = new GroupTowers();
        t.cyclic(2);
        t.pair(0, 0);
        Check.due("1 1 does not fit", t.same(1, 1, 1), GroupTowers.SPENT);
        Check.due("1 2 does", t.same(1, 1, 2), 1);
        t.dihedral(4);
        // Made by 1 and 4, of orders 4 and 2. Of 2, 4, 5, 6, 7 the first goes with 1 as a power of it.
        Check.due("1 2 does not fit", t.same(2, 2, 1), GroupTowers.SPENT);
        Check.due("1 4 does", t.same(2, 2, 2), 1);
        t.quaternions();
        // Made by 1 and 2, both of order 4: 1 1 is the first row.
        Check.due("1 1 of quaternions", t.same(3, 3, 1), GroupTowers.SPENT);
        Check.due("1 2 of quaternions", t.same(3, 3, 2), 1);
        t.cyclic(6);
        t.cyclic(3);
        t.pair(0, 5);
        // 2 with 3 is made by one: 4, the first of order 6. The first of that order in 6 is 1.
        Check.due("6 and 2 with 3", t.same(6, 4, 1), 1);
        Check.due("2 with 3 and 6", t.same(4, 6, 1), 1);
    }

    /** 4 with 4 and 2 with quaternions have 3 elements of order 2 and 12 of order 4. */
    private static void unlikeAfterAllTries() {
        GroupTowers t = new GroupTowers();
        t.cyclic(4);
        t.pair(0, 0);
        t.cyclic(2);
        t.quaternions();
        t.pair(2, 3);
        Check.due("144 tries, and all there are", t.same(1, 4, 144), 0);
        Check.due("one try short", t.same(1, 4, 143), GroupTowers.SPENT);
        Check.due("more tries than there are", t.same(1, 4, 20000), 0);
        Check.due("from the other side", t.same(4, 1, 20000), 0);
        Check.due("no try", t.same(4, 1, 0), GroupTowers.SPENT);
    }

    /** 3 with 3 with 3 and the one over 3 by shears: all of order 3 but 0, so that only products tell them apart. */
    private static void unlikeByProductsAlone() {
        GroupTowers t = new GroupTowers();
        t.cyclic(3);
        t.pair(0, 0);
        t.pair(1, 0);
        t.module(0, 3, 2);
        t.acts(0, 1, 1, 1, 0, 1);
        t.acts(0, 2, 1, 2, 0, 1);
        Check.due("over", t.over(0, 0), 3);
        Check.due("all of order 3", t.about(3, 2), 3);
        Check.due("3 makers: 26 26 26 rows", t.same(2, 3, 17576), 0);
        Check.due("a try short", t.same(2, 3, 17575), GroupTowers.SPENT);
        Check.due("2 makers: 26 26 rows", t.same(3, 2, 676), 0);
        Check.due("a try short", t.same(3, 2, 675), GroupTowers.SPENT);
        Check.due("itself", t.same(3, 3, 676), 1);
        Check.due("itself, the first row", t.same(3, 3, 1), GroupTowers.SPENT);
    }

    /** The least row of makers counts: of dihedral 3 with its first flip called 1 that is 1 2, of orders 2 and 3. */
    private static void leastMakers() {
        GroupTowers t = new GroupTowers();
        t.dihedral(3);
        int[] name = {0, 2, 4, 1, 3, 5};
        t.sheet(0, 0, 36);
        for (int x = 0; x < 6; x++) {
            for (int y = 0; y < 6; y++) {
                t.lay(0, 6 * name[x] + name[y], name[t.product(0, x, y)]);
            }
        }
        Check.due("renamed", t.table(0, 0, 6), 1);
        Check.due("a flip and a turn: the first row", t.same(1, 0, 1), 1);
        Check.due("a turn and a flip: the first row", t.same(0, 1, 1), 1);
    }

    private static void renamed() {
        GroupTowers t = new GroupTowers();
        t.dihedral(6);
        t.dihedral(3);
        t.cyclic(2);
        t.pair(1, 2);
        t.pair(2, 1);
        Check.due("dihedral 6 and dihedral 3 with 2", t.same(0, 3, 500), 1);
        Check.due("2 with dihedral 3", t.same(4, 0, 500), 1);
        t.dihedral(2);
        t.pair(2, 2);
        Check.due("dihedral 2 and 2 with 2", t.same(5, 6, 9), 1);
        t.dihedral(1);
        Check.due("dihedral 1 and 2", t.same(7, 2, 1), 1);
        GroupTowers great = new GroupTowers();
        great.cyclic(48);
        great.cyclic(16);
        great.cyclic(3);
        great.pair(1, 2);
        great.dihedral(24);
        Check.due("48 and 16 with 3", great.same(0, 3, 1), 1);
        Check.due("48 and dihedral 24", great.same(0, 4, 0), 0);
    }

    /** The first row that fits is that of the makers, 1 2 4 8 (16); 1 1 .. to 1 2 4 7 .. stand ahead of it. */
    private static void spentOnManyMakers() {
        GroupTowers t = new GroupTowers();
        t.cyclic(2);
        for (int g = 1; g < 5; g++) {
            t.pair(g - 1, 0);
        }
        int rows = 15 * 15 + 3 * 15 + 8;
        Check.due("4 makers, a try short", t.same(3, 3, rows - 1), GroupTowers.SPENT);
        Check.due("4 makers", t.same(3, 3, rows), 1);
        Check.due("5 makers need 32907 tries", t.same(4, 4, 20000), GroupTowers.SPENT);
    }

    /** 4 with 12 and 2 with quaternions with 3: of order 48, with as many elements of each order. */
    private static void lastElements() {
        GroupTowers t = new GroupTowers();
        t.cyclic(4);
        t.cyclic(12);
        t.pair(0, 1);
        t.quaternions();
        t.cyclic(6);
        t.pair(3, 4);
        Check.due("order", t.order(5), 48);
        Check.due("orders of elements alike", t.same(2, 5, 0), GroupTowers.SPENT);
        // Made by 1 and 12, of orders 12 and 4: there are 24 and 12 such.
        Check.due("a try short of all", t.same(2, 5, 287), GroupTowers.SPENT);
        Check.due("all tries", t.same(2, 5, 288), 0);
    }

    /** Its elements are not among those that are given. */
    private static void whereAGreaterGroupWent() {
        GroupTowers t = new GroupTowers();
        t.cyclic(4);
        t.pair(0, 0);
        t.cyclic(2);
        t.quaternions();
        t.cyclic(32);
        t.drop();
        t.dihedral(24);
        t.drop();
        t.pair(2, 3);
        Check.due("all tries, and no more", t.same(1, 4, 144), 0);
        for (int n = 17; n <= 48; n++) {
            t.drop();
            t.cyclic(n);
            t.drop();
            t.pair(2, 3);
            Check.due("all tries, where " + n + " was", t.same(1, 4, 144), 0);
        }
    }
}
