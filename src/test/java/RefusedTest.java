import java.util.ArrayList;
import java.util.List;

/**
 * "what is refused changes nothing": each call that can be refused, in each way, is made on one of two like objects;
 * then both are asked the same, part by part, and all their answers have to be alike.
 */
public final class RefusedTest {
    private static final int BAD = GroupTowers.BAD, STATE = GroupTowers.STATE, FULL = GroupTowers.FULL;
    private static final int NONE = GroupTowers.NONE, SPENT = GroupTowers.SPENT;
    private static final int MOST_CALLS = 512;

    private interface Call {
        int on(GroupTowers t);
    }

    private interface Scene {
        int set(GroupTowers t);
    }

    private interface Questions {
        void ask(GroupTowers t, List<Integer> answers);
    }

    private static final Questions[] PARTS = {RefusedTest::askGroups, RefusedTest::askProducts,
        RefusedTest::askModules, RefusedTest::askClasses, RefusedTest::askSheets, RefusedTest::askWhatComesNext,
        RefusedTest::askWhatGoes};

    private final Scene scene;

    private RefusedTest(Scene scene) {
        this.scene = scene;
    }

    public static void main(String[] args) {
        onNothing(new RefusedTest(t -> 0));
        onSome(new RefusedTest(RefusedTest::some));
        onFull(new RefusedTest(RefusedTest::full));
        Check.end();
    }

    /** 3 groups (2, 45, dihedral 3), 3 modules (one at rest, one by opposites, one not sound), 3 sheets; calls made. */
    private static int some(GroupTowers t) {
        t.cyclic(2);
        t.cyclic(45);
        t.dihedral(3);
        t.module(0, 2, 2);
        t.module(0, 3, 1);
        t.acts(1, 1, 2, 0, 0, 0);
        t.module(2, 5, 1);
        t.acts(2, 3, 2, 0, 0, 0);
        t.sheet(0, 0, 9);
        int[] table = {0, 1, 2, 1, 2, 0, 2, 0, 1};
        for (int i = 0; i < 9; i++) {
            t.lay(0, i, table[i]);
        }
        t.sheet(1, 1, 8);
        t.lay(1, 6, -1);
        t.lay(1, 7, 1);
        t.sheet(2, 0, 0);
        return 22;
    }

    /** 8 groups, 6 modules. */
    private static int full(GroupTowers t) {
        t.cyclic(2);
        for (int g = 1; g < 8; g++) {
            t.pair(g < 3 ? g - 1 : 0, 0);
        }
        for (int m = 0; m < 6; m++) {
            t.module(m < 3 ? 0 : m - 2, m == 3 ? 5 : 2, 1 + m % 2);
        }
        t.sheet(0, 1, 4);
        t.lay(0, 1, 1);
        t.lay(0, 2, 1);
        return 17;
    }

    private void refused(String name, int due, Call call) {
        for (int part = 0; part < PARTS.length; part++) {
            GroupTowers touched = new GroupTowers();
            GroupTowers untouched = new GroupTowers();
            int calls = scene.set(touched);
            scene.set(untouched);
            Check.due(name, call.on(touched), due);
            Check.due(name + ", once more", call.on(touched), due);
            List<Integer> got = new ArrayList<>();
            List<Integer> want = new ArrayList<>();
            PARTS[part].ask(touched, got);
            PARTS[part].ask(untouched, want);
            Check.due("calls of one object", calls + 2 + got.size() <= MOST_CALLS ? 1 : 0, 1);
            Check.due(name + ": answers of part " + part, got.size(), want.size());
            for (int i = 0; i < want.size(); i++) {
                Check.due(name + ": then answer " + i + " of part " + part, got.get(i), want.get(i));
            }
        }
    }

    private static void askGroups(GroupTowers t, List<Integer> answers) {
        for (int what = 0; what < 3; what++) {
            answers.add(t.count(what));
        }
        for (int g = 0; g < 8; g++) {
            answers.add(t.order(g));
            for (int what = 0; what < 6; what++) {
                answers.add(t.about(g, what));
            }
            for (int x = 0; x < 4; x++) {
                for (int what = 0; what < 4; what++) {
                    answers.add(t.element(g, x, what));
                }
            }
            answers.add(t.made(g, 1, 3));
            answers.add(t.same(g, 0, 9));
        }
    }

    private static void askProducts(GroupTowers t, List<Integer> answers) {
        for (int g = 0; g < 8; g++) {
            for (int i = 0; i < 49; i++) {
                answers.add(t.product(g, i % 7, i / 7));
            }
        }
    }

    private static void askModules(GroupTowers t, List<Integer> answers) {
        for (int m = 0; m < 6; m++) {
            answers.add(t.sound(m));
            for (int what = 0; what < 7; what++) {
                answers.add(t.dimension(m, what));
            }
            for (int c = 0; c < 4; c++) {
                answers.add(t.parts(m, c));
                answers.add(t.times(m, c, 1));
                for (int d = 0; d < 4; d++) {
                    answers.add(t.sum(m, c, d));
                }
            }
        }
    }

    private static void askClasses(GroupTowers t, List<Integer> answers) {
        for (int m = 0; m < 6; m++) {
            for (int i = 0; i < 27; i++) {
                for (int number = 0; number < 2; number++) {
                    answers.add(t.twist(m, 1, i / 5, i % 5, number));
                }
            }
            for (int k = 0; k < 4; k++) {
                answers.add(t.classOf(m, k, 0));
                answers.add(t.classOf(m, k, 1));
            }
        }
    }

    /** Modules and groups go first, so that there is room for what is read; what comes goes at once. */
    private static void askSheets(GroupTowers t, List<Integer> answers) {
        while (t.count(1) > 0) {
            answers.add(t.leave());
        }
        while (t.count(0) > 0) {
            answers.add(t.drop());
        }
        for (int k = 0; k < 4; k++) {
            for (int lane = 0; lane < 2; lane++) {
                for (int n = 1; n <= 3; n++) {
                    answers.add(t.table(k, lane, n));
                    for (int i = 0; i < n * n; i++) {
                        answers.add(t.product(0, i / n, i % n));
                    }
                    answers.add(t.drop());
                }
            }
            for (int i : new int[] {-1, 0, 6, 8, 9}) {
                answers.add(t.lay(k, i, 0));
            }
        }
    }

    private static void askWhatComesNext(GroupTowers t, List<Integer> answers) {
        answers.add(t.quaternions());
        answers.add(t.table(0, 0, 3));
        answers.add(t.table(0, 1, 2));
        answers.add(t.over(0, 3));
        answers.add(t.pair(0, 0));
        answers.add(t.module(0, 3, 2));
        answers.add(t.acts(3, 1, 2, 0, 0, 2));
        answers.add(t.dimension(3, 2));
        answers.add(t.over(1, 0));
        for (int g = 0; g < 8; g++) {
            answers.add(t.order(g));
            for (int i = 0; i < 36; i++) {
                answers.add(t.product(g, i % 6, i / 6));
            }
        }
        answers.add(t.leave());
        answers.add(t.drop());
    }

    private static void askWhatGoes(GroupTowers t, List<Integer> answers) {
        answers.add(t.drop());
        for (int m = 0; m < 7; m++) {
            answers.add(t.leave());
            answers.add(t.sound(m));
            answers.add(t.drop());
            answers.add(t.count(0));
            answers.add(t.count(1));
        }
        answers.add(t.cyclic(3));
        answers.add(t.module(0, 3, 1));
        answers.add(t.sound(0));
        answers.add(t.over(0, 1));
        for (int i = 0; i < 81; i++) {
            answers.add(t.product(t.count(0) - 1, i % 9, i / 9));
        }
    }

    private static void onNothing(RefusedTest test) {
        test.refused("drop of nothing", NONE, GroupTowers::drop);
        test.refused("leave of nothing", NONE, GroupTowers::leave);
        test.refused("count of cells of nothing", NONE, t -> t.count(2));
        test.refused("lay on nothing", -11, t -> t.lay(0, 0, 1));
        test.refused("table of nothing", -11, t -> t.table(0, 0, 1));
        test.refused("pair of none", BAD, t -> t.pair(0, 0));
        test.refused("module of none", BAD, t -> t.module(0, 2, 1));
        test.refused("acts of none", BAD, t -> t.acts(0, 0, 0, 0, 0, 0));
        test.refused("over of none", BAD, t -> t.over(0, 0));
        test.refused("sheet of a size below 0", -14, t -> t.sheet(0, 0, -1));
        test.refused("sheet of 145", BAD, t -> t.sheet(0, 0, 145));
    }

    private static void onSome(RefusedTest test) {
        test.refused("cyclic(0)", BAD, t -> t.cyclic(0));
        test.refused("cyclic(49)", BAD, t -> t.cyclic(49));
        test.refused("dihedral(0)", BAD, t -> t.dihedral(0));
        test.refused("dihedral(25)", BAD, t -> t.dihedral(25));
        test.refused("pair(3, 0)", BAD, t -> t.pair(3, 0));
        test.refused("pair(0, -1)", BAD, t -> t.pair(0, -1));
        test.refused("pair of 90", FULL, t -> t.pair(0, 1));
        test.refused("sheet(4, ..)", BAD, t -> t.sheet(4, 0, 1));
        test.refused("sheet(-1, ..)", BAD, t -> t.sheet(-1, 0, 1));
        test.refused("sheet(0, 2, ..)", BAD, t -> t.sheet(0, 2, 1));
        test.refused("sheet(0, -1, ..)", BAD, t -> t.sheet(0, -1, 1));
        test.refused("sheet(0, 1, 145)", BAD, t -> t.sheet(0, 1, 145));
        test.refused("sheet(0, 1, -1)", -14, t -> t.sheet(0, 1, -1));
        test.refused("lay(4, ..)", BAD, t -> t.lay(4, 0, 1));
        test.refused("lay(-1, ..)", BAD, t -> t.lay(-1, 0, 1));
        test.refused("lay(0, 9, 1)", -12, t -> t.lay(0, 9, 1));
        test.refused("lay(0, -1, 1)", -12, t -> t.lay(0, -1, 1));
        test.refused("lay(2, 0, 1)", -12, t -> t.lay(2, 0, 1));
        test.refused("lay(3, 0, 1)", -11, t -> t.lay(3, 0, 1));
        tableOnSome(test);
        test.refused("product(3, ..)", BAD, t -> t.product(3, 0, 0));
        test.refused("product of no x", BAD, t -> t.product(0, 2, 0));
        test.refused("element of no x", BAD, t -> t.element(2, 6, 0));
        test.refused("element of no what", BAD, t -> t.element(2, 0, 4));
        test.refused("about of no what", BAD, t -> t.about(2, 6));
        test.refused("made of no y", BAD, t -> t.made(2, 0, 6));
        test.refused("same of too many tries", BAD, t -> t.same(2, 2, 20001));
        test.refused("same of too few tries", SPENT, t -> t.same(2, 2, 0));
        modulesOnSome(test);
        classesOnSome(test);
        test.refused("count(3)", BAD, t -> t.count(3));
    }

    private static void tableOnSome(RefusedTest test) {
        test.refused("table(4, ..)", BAD, t -> t.table(4, 0, 3));
        test.refused("table(0, 2, 3)", BAD, t -> t.table(0, 2, 3));
        test.refused("table(0, 0, 0)", BAD, t -> t.table(0, 0, 0));
        test.refused("table(0, 0, 13)", BAD, t -> t.table(0, 0, 13));
        test.refused("table of nothing", -11, t -> t.table(3, 0, 1));
        test.refused("table of another lane", -13, t -> t.table(0, 1, 3));
        test.refused("table of too few", -12, t -> t.table(0, 0, 4));
        test.refused("table of a wrong place", -102, t -> t.table(0, 0, 2));
        test.refused("table of 0 alone", -101, t -> t.table(1, 1, 2));
    }

    private static void modulesOnSome(RefusedTest test) {
        test.refused("drop of a module's group", STATE, GroupTowers::drop);
        test.refused("module(3, ..)", BAD, t -> t.module(3, 2, 1));
        test.refused("module of 45", BAD, t -> t.module(1, 2, 1));
        test.refused("module of no prime", BAD, t -> t.module(0, 4, 1));
        test.refused("module of no rank", BAD, t -> t.module(0, 2, 3));
        test.refused("acts(3, ..)", BAD, t -> t.acts(3, 0, 0, 0, 0, 0));
        test.refused("acts of no x", BAD, t -> t.acts(0, 2, 0, 0, 0, 0));
        test.refused("acts by a above", BAD, t -> t.acts(0, 1, 2, 1, 1, 0));
        test.refused("acts by b above", BAD, t -> t.acts(0, 1, 0, 2, 1, 0));
        test.refused("acts by c above", BAD, t -> t.acts(0, 1, 0, 1, 2, 0));
        test.refused("acts by d above", BAD, t -> t.acts(0, 1, 0, 1, 1, 2));
        test.refused("acts by a below", BAD, t -> t.acts(0, 0, -1, 0, 0, 0));
        test.refused("acts of rank 1 by b", BAD, t -> t.acts(1, 1, 1, 1, 0, 0));
        test.refused("acts of rank 1 by d", BAD, t -> t.acts(1, 0, 0, 0, 0, 1));
        test.refused("dimension of no what", BAD, t -> t.dimension(0, 7));
        test.refused("dimension of what is not sound", STATE, t -> t.dimension(2, 0));
    }

    private static void classesOnSome(RefusedTest test) {
        test.refused("twist of no x", BAD, t -> t.twist(0, 0, 2, 0, 0));
        test.refused("twist of no class", BAD, t -> t.twist(0, 4, 0, 0, 0));
        test.refused("twist of what is not sound", STATE, t -> t.twist(2, 0, 0, 0, 0));
        test.refused("over of a class below", BAD, t -> t.over(0, -1));
        test.refused("over of a class above", BAD, t -> t.over(0, 4));
        test.refused("over of what is not sound", STATE, t -> t.over(2, 0));
        test.refused("classOf of no sheet", BAD, t -> t.classOf(0, 4, 0));
        test.refused("classOf of what is not sound", STATE, t -> t.classOf(2, 0, 0));
        test.refused("classOf of nothing", -11, t -> t.classOf(0, 3, 0));
        test.refused("classOf of another lane", -13, t -> t.classOf(0, 1, 0));
        test.refused("classOf of too few", -12, t -> t.classOf(0, 2, 0));
        test.refused("classOf of no cocycle", NONE, t -> t.classOf(1, 0, 0));
        test.refused("parts of no class", BAD, t -> t.parts(0, 4));
        test.refused("parts of what is not sound", STATE, t -> t.parts(2, 0));
        test.refused("sum of no second", BAD, t -> t.sum(0, 0, 4));
        test.refused("sum of what is not sound", STATE, t -> t.sum(2, 0, 0));
        test.refused("times by 0", BAD, t -> t.times(0, 1, 0));
        test.refused("times of what is not sound", STATE, t -> t.times(2, 0, 1));
    }

    private static void onFull(RefusedTest test) {
        test.refused("cyclic of no place", FULL, t -> t.cyclic(3));
        test.refused("dihedral of no place", FULL, t -> t.dihedral(3));
        test.refused("quaternions of no place", FULL, GroupTowers::quaternions);
        test.refused("pair of no place", FULL, t -> t.pair(0, 1));
        test.refused("table of no place", FULL, t -> t.table(0, 1, 2));
        test.refused("table of another lane", -13, t -> t.table(0, 0, 2));
        test.refused("over of no place", FULL, t -> t.over(0, 0));
        test.refused("over of 100", FULL, t -> t.over(3, 0));
        test.refused("module of no place", FULL, t -> t.module(0, 3, 1));
        test.refused("module of no prime and no place", BAD, t -> t.module(3, 9, 1));
        test.refused("acts of no module", BAD, t -> t.acts(6, 0, 0, 0, 0, 0));
        test.refused("a ninth group", BAD, t -> t.order(8));
    }
}
