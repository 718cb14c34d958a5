/** "the first that fits": of each call each two answers that fit at once. */
public final class FirstAnswerTest {
    private static final int BAD = GroupTowers.BAD, STATE = GroupTowers.STATE, FULL = GroupTowers.FULL;
    private static final int NONE = GroupTowers.NONE, SPENT = GroupTowers.SPENT;
    private static final int NULL = -11, INDEX = -12, CAST = -13, SIZE = -14;

    private FirstAnswerTest() {
    }

    public static void main(String[] args) {
        badAheadOfFullForGroups();
        badAheadOfFullForModules();
        badAheadOfSize();
        badAheadOfFaults();
        faultsInOrder();
        faultsAheadOfFull();
        fullAheadOfWrongTable();
        placesAheadOfProductsAheadOfInverses();
        badAheadOfStateBesideAClass();
        stateAheadOfClassAbove();
        firstClassAheadOfSecond();
        stateAheadOfFull();
        badAheadOfStateForClassOf();
        stateAheadOfFaults();
        faultsAheadOfNone();
        badAheadOfSpent();
        unitAheadOfProducts();
        badAheadOfStateForDimension();
        Check.end();
    }

    private static GroupTowers full() {
        GroupTowers t = new GroupTowers();
        t.cyclic(2);
        for (int g = 1; g < 8; g++) {
            t.cyclic(9);
        }
        for (int m = 0; m < 6; m++) {
            t.module(0, 2, 1);
        }
        return t;
    }

    private static void badAheadOfFullForGroups() {
        GroupTowers t = full();
        Check.due("cyclic(0)", t.cyclic(0), BAD);
        Check.due("cyclic(49)", t.cyclic(49), BAD);
        Check.due("cyclic(1)", t.cyclic(1), FULL);
        Check.due("cyclic(48)", t.cyclic(48), FULL);
        Check.due("dihedral(0)", t.dihedral(0), BAD);
        Check.due("dihedral(25)", t.dihedral(25), BAD);
        Check.due("dihedral(1)", t.dihedral(1), FULL);
        Check.due("dihedral(24)", t.dihedral(24), FULL);
        Check.due("quaternions()", t.quaternions(), FULL);
        Check.due("pair(-1, 1)", t.pair(-1, 1), BAD);
        Check.due("pair(1, 8)", t.pair(1, 8), BAD);
        Check.due("pair(0, 0)", t.pair(0, 0), FULL);
        Check.due("pair(1, 1): 81 as well", t.pair(1, 1), FULL);
        Check.due("over(0, -1)", t.over(0, -1), BAD);
        Check.due("over(0, 2)", t.over(0, 2), BAD);
        Check.due("over(6, 0)", t.over(6, 0), BAD);
        Check.due("over(0, 1)", t.over(0, 1), FULL);
        GroupTowers room = new GroupTowers();
        room.cyclic(7);
        Check.due("no second of 49", room.pair(0, 1), BAD);
        room.cyclic(2);
        room.module(1, 5, 2);
        Check.due("no class of 50", room.over(0, 1), BAD);
        Check.due("50", room.over(0, 0), FULL);
    }

    private static void badAheadOfFullForModules() {
        GroupTowers t = full();
        Check.due("no group", t.module(8, 2, 1), BAD);
        Check.due("group below", t.module(-1, 2, 1), BAD);
        Check.due("order 9", t.module(1, 2, 1), BAD);
        Check.due("no prime", t.module(0, 4, 1), BAD);
        Check.due("rank 0", t.module(0, 2, 0), BAD);
        Check.due("rank 3", t.module(0, 2, 3), BAD);
        Check.due("all as told", t.module(0, 2, 1), FULL);
    }

    private static void badAheadOfSize() {
        GroupTowers t = new GroupTowers();
        Check.due("no sheet, size below", t.sheet(4, 0, -1), BAD);
        Check.due("sheet below, size below", t.sheet(-1, 0, -1), BAD);
        Check.due("no lane, size below", t.sheet(0, 2, -1), BAD);
        Check.due("lane below, size below", t.sheet(0, -1, -1), BAD);
        Check.due("size below", t.sheet(0, 0, -1), SIZE);
    }

    private static void badAheadOfFaults() {
        GroupTowers t = new GroupTowers();
        Check.due("nothing, no lane", t.table(0, 2, 1), BAD);
        Check.due("nothing, order 0", t.table(0, 0, 0), BAD);
        Check.due("nothing, order 13", t.table(0, 0, 13), BAD);
        t.sheet(0, 0, 3);
        Check.due("no lane it could be of", t.table(0, 2, 1), BAD);
        Check.due("another lane, order 13", t.table(0, 1, 13), BAD);
        Check.due("too few, order 13", t.table(0, 0, 13), BAD);
        Check.due("too few, order 0", t.table(0, 0, 0), BAD);
        Check.due("too few", t.table(0, 0, 2), INDEX);
    }

    private static void faultsInOrder() {
        GroupTowers t = new GroupTowers();
        Check.due("lay: nothing, index below", t.lay(0, -1, 0), NULL);
        Check.due("lay: nothing, index above", t.lay(0, 144, 0), NULL);
        t.sheet(0, 0, 3);
        t.sheet(1, 1, 0);
        Check.due("table: another lane, too few", t.table(0, 1, 2), CAST);
        Check.due("table: another lane, none", t.table(1, 0, 1), CAST);
        Check.due("table: too few", t.table(0, 0, 2), INDEX);
        Check.due("table: none", t.table(1, 1, 1), INDEX);
        t.cyclic(2);
        t.module(0, 2, 1);
        Check.due("classOf: another lane, too few", t.classOf(0, 0, 1), CAST);
        Check.due("classOf: another lane, none", t.classOf(0, 1, 0), CAST);
        Check.due("classOf: too few", t.classOf(0, 0, 0), INDEX);
        Check.due("classOf: none", t.classOf(0, 1, 1), INDEX);
    }

    private static void faultsAheadOfFull() {
        GroupTowers t = full();
        Check.due("no sheet", t.table(4, 0, 1), BAD);
        Check.due("no lane", t.table(0, 2, 1), BAD);
        Check.due("no order", t.table(0, 0, 13), BAD);
        Check.due("nothing", t.table(0, 0, 1), NULL);
        t.sheet(0, 0, 3);
        Check.due("another lane", t.table(0, 1, 1), CAST);
        Check.due("too few", t.table(0, 0, 2), INDEX);
        Check.due("a table", t.table(0, 0, 1), FULL);
    }

    private static void fullAheadOfWrongTable() {
        GroupTowers t = full();
        t.sheet(0, 0, 4);
        Check.due("0 with 1 is 0", t.table(0, 0, 2), FULL);
        t.lay(0, 1, 1);
        t.lay(0, 2, 1);
        t.lay(0, 3, 1);
        Check.due("1 has no inverse", t.table(0, 0, 2), FULL);
        for (int m = 0; m < 6; m++) {
            t.leave();
        }
        t.drop();
        Check.due("1 has no inverse, and there is room", t.table(0, 0, 2), -3101);
        t.lay(0, 1, 0);
        Check.due("0 with 1 is 0, and there is room", t.table(0, 0, 2), -101);
    }

    /** 1 1 is 2, 1 2 and 2 1 are 1 and 2: unlike; neither 1 nor 2 has an inverse; and a place at the end is wrong. */
    private static void placesAheadOfProductsAheadOfInverses() {
        GroupTowers t = new GroupTowers();
        t.sheet(0, 0, 9);
        int[] cells = {0, 1, 2, 1, 2, 1, 2, 2, 3};
        for (int i = 0; i < 9; i++) {
            t.lay(0, i, cells[i]);
        }
        Check.due("the last place", t.table(0, 0, 3), -108);
        t.lay(0, 8, 1);
        Check.due("unlike", t.table(0, 0, 3), -1113);
        t.lay(0, 4, 1);
        t.lay(0, 7, 1);
        Check.due("no inverse of 1", t.table(0, 0, 3), -3101);
    }

    private static GroupTowers notSound() {
        GroupTowers t = new GroupTowers();
        t.cyclic(2);
        t.module(0, 3, 2);
        t.acts(0, 1, 0, 0, 0, 0);
        return t;
    }

    private static void badAheadOfStateBesideAClass() {
        GroupTowers t = notSound();
        Check.due("twist", t.twist(0, 0, 1, 1, 1), STATE);
        Check.due("twist: x below", t.twist(0, 0, -1, 1, 1), BAD);
        Check.due("twist: x above", t.twist(0, 0, 2, 1, 1), BAD);
        Check.due("twist: y below", t.twist(0, 0, 1, -1, 1), BAD);
        Check.due("twist: y above", t.twist(0, 0, 1, 2, 1), BAD);
        Check.due("twist: i below", t.twist(0, 0, 1, 1, -1), BAD);
        Check.due("twist: i above", t.twist(0, 0, 1, 1, 2), BAD);
        Check.due("twist: class below", t.twist(0, -1, 1, 1, 1), BAD);
        Check.due("times", t.times(0, 0, 2), STATE);
        Check.due("times: s 0", t.times(0, 0, 0), BAD);
        Check.due("times: s 3", t.times(0, 0, 3), BAD);
        Check.due("times: class below", t.times(0, -1, 2), BAD);
    }

    private static void stateAheadOfClassAbove() {
        GroupTowers t = notSound();
        Check.due("twist", t.twist(0, 1, 0, 0, 0), STATE);
        Check.due("over", t.over(0, 1), STATE);
        Check.due("parts", t.parts(0, 1), STATE);
        Check.due("sum", t.sum(0, 1, 0), STATE);
        Check.due("sum behind", t.sum(0, 0, 1), STATE);
        Check.due("times", t.times(0, 1, 1), STATE);
        t.acts(0, 1, 1, 0, 0, 1);
        Check.due("sound: twist", t.twist(0, 1, 0, 0, 0), BAD);
        Check.due("sound: over", t.over(0, 1), BAD);
        Check.due("sound: parts", t.parts(0, 1), BAD);
        Check.due("sound: sum", t.sum(0, 1, 0), BAD);
        Check.due("sound: sum behind", t.sum(0, 0, 1), BAD);
        Check.due("sound: times", t.times(0, 1, 1), BAD);
    }

    private static void firstClassAheadOfSecond() {
        GroupTowers t = notSound();
        Check.due("first below, second any", t.sum(0, -1, 0), BAD);
        Check.due("first below, second above", t.sum(0, -1, 1), BAD);
        Check.due("first any, second below", t.sum(0, 0, -1), STATE);
        Check.due("first above, second below", t.sum(0, 1, -1), STATE);
        Check.due("no module, both any", t.sum(1, 0, 0), BAD);
    }

    private static void stateAheadOfFull() {
        GroupTowers t = notSound();
        for (int g = 1; g < 8; g++) {
            t.cyclic(1);
        }
        Check.due("over", t.over(0, 0), STATE);
        Check.due("over, class below", t.over(0, -1), BAD);
        t.acts(0, 1, 1, 0, 0, 1);
        Check.due("over, sound", t.over(0, 0), FULL);
        Check.due("over, class above", t.over(0, 1), BAD);
        GroupTowers great = new GroupTowers();
        great.cyclic(2);
        great.module(0, 5, 2);
        great.acts(0, 1, 0, 0, 0, 0);
        Check.due("over of 50", great.over(0, 0), STATE);
    }

    private static void badAheadOfStateForClassOf() {
        GroupTowers t = notSound();
        t.sheet(0, 0, 8);
        Check.due("no module", t.classOf(1, 0, 0), BAD);
        Check.due("no sheet", t.classOf(0, 4, 0), BAD);
        Check.due("sheet below", t.classOf(0, -1, 0), BAD);
        Check.due("no lane", t.classOf(0, 0, 2), BAD);
        Check.due("lane below", t.classOf(0, 0, -1), BAD);
        Check.due("all as told", t.classOf(0, 0, 0), STATE);
    }

    private static void stateAheadOfFaults() {
        GroupTowers t = notSound();
        t.sheet(0, 0, 7);
        t.sheet(1, 0, 8);
        t.lay(1, 0, 1);
        Check.due("nothing", t.classOf(0, 2, 0), STATE);
        Check.due("another lane", t.classOf(0, 0, 1), STATE);
        Check.due("too few", t.classOf(0, 0, 0), STATE);
        Check.due("no cocycle", t.classOf(0, 1, 0), STATE);
        t.acts(0, 1, 1, 0, 0, 1);
        Check.due("sound: nothing", t.classOf(0, 2, 0), NULL);
        Check.due("sound: another lane", t.classOf(0, 0, 1), CAST);
        Check.due("sound: too few", t.classOf(0, 0, 0), INDEX);
        Check.due("sound: no cocycle", t.classOf(0, 1, 0), NONE);
    }

    private static void faultsAheadOfNone() {
        GroupTowers t = new GroupTowers();
        t.cyclic(2);
        t.module(0, 2, 1);
        t.sheet(0, 0, 3);
        t.sheet(1, 1, 4);
        t.lay(0, 0, 1);
        t.lay(1, 0, 1);
        Check.due("too few, not 0 at 0", t.classOf(0, 0, 0), INDEX);
        Check.due("another lane, not 0 at 0", t.classOf(0, 1, 0), CAST);
        Check.due("not 0 at 0", t.classOf(0, 1, 1), NONE);
    }

    private static void badAheadOfSpent() {
        GroupTowers t = new GroupTowers();
        t.cyclic(2);
        Check.due("no first", t.same(1, 0, 0), BAD);
        Check.due("no second", t.same(0, 1, 0), BAD);
        Check.due("tries below", t.same(0, 0, -1), BAD);
        Check.due("no try", t.same(0, 0, 0), SPENT);
    }

    private static void unitAheadOfProducts() {
        GroupTowers t = notSound();
        Check.due("1 1", t.sound(0), 4);
        t.acts(0, 0, 2, 0, 0, 1);
        Check.due("0 and 1 1", t.sound(0), 1000);
        Check.due("no module", t.sound(1), BAD);
    }

    private static void badAheadOfStateForDimension() {
        GroupTowers t = notSound();
        Check.due("what below", t.dimension(0, -1), BAD);
        Check.due("what above", t.dimension(0, 7), BAD);
        Check.due("no module", t.dimension(1, 0), BAD);
        Check.due("the first what", t.dimension(0, 0), STATE);
        Check.due("the last what", t.dimension(0, 6), STATE);
    }
}
