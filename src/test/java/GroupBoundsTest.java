/** Promises 1 to 5 and 9 to 14: each sentence that names a bound, by itself. */
public final class GroupBoundsTest {
    private static final int BAD = GroupTowers.BAD, STATE = GroupTowers.STATE, FULL = GroupTowers.FULL;
    private static final int NONE = GroupTowers.NONE;
    private static final int LEAST = Integer.MIN_VALUE, MOST = Integer.MAX_VALUE;

    private GroupBoundsTest() {
    }

    public static void main(String[] args) {
        newObjectHasNoGroups();
        newObjectHasNoModules();
        newObjectHasNoSheets();
        cyclicTakesOneTo48();
        cyclicWraps();
        dihedralTakesOneTo24();
        dihedralWraps();
        oppositesOfOpposites();
        pairUpTo48();
        pairOfTheLeast();
        eighthPlaceAndNinth();
        groupNumbers();
        groupNumberAfterDrop();
        dropOfNothing();
        dropOfAModulesGroup();
        elements();
        whatOfAnElement();
        zeroIsTakenOnce();
        leastTurnedIsItselfToo();
        whatOfAGroup();
        aboutTheLeastGroup();
        aboutTheGreatestGroups();
        oneMakesAllWhateverItsName();
        madeCountsZero();
        askingChangesNothing();
        Check.end();
    }

    /** "No GROUPS". */
    private static void newObjectHasNoGroups() {
        GroupTowers t = new GroupTowers();
        Check.due("new: count(0)", t.count(0), 0);
        Check.due("new: drop()", t.drop(), NONE);
        Check.due("new: order(0)", t.order(0), BAD);
        Check.due("new: product", t.product(0, 0, 0), BAD);
        Check.due("new: element", t.element(0, 0, 0), BAD);
        Check.due("new: about", t.about(0, 0), BAD);
        Check.due("new: made", t.made(0, 0, 0), BAD);
        Check.due("new: same", t.same(0, 0, 1), BAD);
        Check.due("new: pair", t.pair(0, 0), BAD);
        Check.due("new: module", t.module(0, 2, 1), BAD);
        Check.due("new: the first group", t.cyclic(1), 0);
    }

    /** "No MODULES". */
    private static void newObjectHasNoModules() {
        GroupTowers t = new GroupTowers();
        t.cyclic(1);
        t.sheet(0, 0, 1);
        Check.due("new: count(1)", t.count(1), 0);
        Check.due("new: leave()", t.leave(), NONE);
        Check.due("new: acts", t.acts(0, 0, 1, 0, 0, 0), BAD);
        Check.due("new: sound", t.sound(0), BAD);
        Check.due("new: dimension", t.dimension(0, 0), BAD);
        Check.due("new: twist", t.twist(0, 0, 0, 0, 0), BAD);
        Check.due("new: over", t.over(0, 0), BAD);
        Check.due("new: classOf", t.classOf(0, 0, 0), BAD);
        Check.due("new: parts", t.parts(0, 0), BAD);
        Check.due("new: sum", t.sum(0, 0, 0), BAD);
        Check.due("new: times", t.times(0, 0, 1), BAD);
        Check.due("new: the first module", t.module(0, 2, 1), 0);
    }

    /** "SHEETS have nothing": of no lane, whichever they are taken as of. */
    private static void newObjectHasNoSheets() {
        GroupTowers t = new GroupTowers();
        t.cyclic(1);
        t.module(0, 2, 1);
        Check.due("new: count(2)", t.count(2), NONE);
        for (int k = 0; k < 4; k++) {
            Check.due("new: lay on " + k, t.lay(k, 0, 0), -11);
            for (int lane = 0; lane < 2; lane++) {
                Check.due("new: table of " + k + ", " + lane, t.table(k, lane, 1), -11);
                Check.due("new: classOf of " + k + ", " + lane, t.classOf(0, k, lane), -11);
            }
        }
    }

    /** "CYCLIC n (1 to 48)". */
    private static void cyclicTakesOneTo48() {
        for (int n : new int[] {LEAST, -1, 0, 49, 50, 96, MOST}) {
            GroupTowers t = new GroupTowers();
            Check.due("cyclic " + n, t.cyclic(n), BAD);
            Check.due("cyclic " + n + " is no group", t.count(0), 0);
        }
        for (int n = 1; n <= 48; n++) {
            GroupTowers t = new GroupTowers();
            Check.due("cyclic " + n, t.cyclic(n), 0);
            Check.due("its order", t.order(0), n);
        }
    }

    /** "x + y, modulo n". */
    private static void cyclicWraps() {
        GroupTowers t = new GroupTowers();
        t.cyclic(48);
        Check.due("47 is reached", t.product(0, 23, 24), 47);
        Check.due("48 is 0", t.product(0, 24, 24), 0);
        Check.due("49 is 1", t.product(0, 25, 24), 1);
        Check.due("94 is 46", t.product(0, 47, 47), 46);
        t.cyclic(1);
        Check.due("0 alone", t.product(1, 0, 0), 0);
    }

    /** "DIHEDRAL n (1 to 24)". */
    private static void dihedralTakesOneTo24() {
        for (int n : new int[] {LEAST, -1, 0, 25, 26, 48, MOST}) {
            GroupTowers t = new GroupTowers();
            Check.due("dihedral " + n, t.dihedral(n), BAD);
            Check.due("dihedral " + n + " is no group", t.count(0), 0);
        }
        for (int n = 1; n <= 24; n++) {
            GroupTowers t = new GroupTowers();
            Check.due("dihedral " + n, t.dihedral(n), 0);
            Check.due("its order", t.order(0), 2 * n);
        }
    }

    /** "each modulo n": of the four kinds of products those that reach n, or fall below 0. */
    private static void dihedralWraps() {
        GroupTowers t = new GroupTowers();
        t.dihedral(24);
        Check.due("23 is reached", t.product(0, 22, 1), 23);
        Check.due("24 is 0", t.product(0, 23, 1), 0);
        Check.due("46 is 22", t.product(0, 23, 23), 22);
        Check.due("23 (24 + 0)", t.product(0, 23, 24), 24 + 23);
        Check.due("23 (24 + 1)", t.product(0, 23, 24 + 1), 24);
        Check.due("23 (24 + 23)", t.product(0, 23, 24 + 23), 24 + 22);
        Check.due("(24 + 1) 1", t.product(0, 24 + 1, 1), 24);
        Check.due("(24 + 0) 1", t.product(0, 24, 1), 24 + 23);
        Check.due("(24 + 0) 23", t.product(0, 24, 23), 24 + 1);
        Check.due("(24 + 1) (24 + 1)", t.product(0, 25, 25), 0);
        Check.due("(24 + 0) (24 + 1)", t.product(0, 24, 25), 23);
        Check.due("(24 + 0) (24 + 23)", t.product(0, 24, 47), 1);
        Check.due("(24 + 23) (24 + 0)", t.product(0, 47, 24), 23);
        t.dihedral(1);
        int[] least = {0, 1, 1, 0};
        for (int i = 0; i < 4; i++) {
            Check.due("dihedral 1: " + i, t.product(1, i / 2, i % 2), least[i]);
        }
    }

    /** "4 + those their opposites": two opposites are none. */
    private static void oppositesOfOpposites() {
        GroupTowers t = new GroupTowers();
        t.quaternions();
        for (int x = 0; x < 8; x++) {
            Check.due("4 " + x, t.product(0, 4, x), (x + 4) % 8);
            Check.due(x + " 4", t.product(0, x, 4), (x + 4) % 8);
            for (int y = 0; y < 8; y++) {
                int one = t.product(0, x, y);
                Check.due(x + " opposite of " + y, t.product(0, x, (y + 4) % 8), (one + 4) % 8);
                Check.due("opposite of " + x + " " + y, t.product(0, (x + 4) % 8, y), (one + 4) % 8);
            }
        }
        Check.due("7 7", t.product(0, 7, 7), 4);
        Check.due("its inverse", t.element(0, 7, 0), 3);
    }

    /** "FULL: also an ORDER above 48". */
    private static void pairUpTo48() {
        GroupTowers t = new GroupTowers();
        t.cyclic(6);
        t.cyclic(8);
        t.cyclic(7);
        t.cyclic(48);
        t.cyclic(1);
        Check.due("7 with 7: 49", t.pair(2, 2), FULL);
        Check.due("48 with 48", t.pair(3, 3), FULL);
        Check.due("48 with 6", t.pair(3, 0), FULL);
        Check.due("8 with 7", t.pair(1, 2), FULL);
        Check.due("none of these", t.count(0), 5);
        Check.due("6 with 8: 48", t.pair(0, 1), 5);
        Check.due("8 with 6: 48", t.pair(1, 0), 6);
        Check.due("48 with 1", t.pair(3, 4), 7);
        for (int g = 5; g < 8; g++) {
            Check.due("order of " + g, t.order(g), 48);
        }
        Check.due("(5, 7) (5, 7)", t.product(5, 47, 47), 8 * 4 + 6);
        Check.due("(7, 5) (7, 5)", t.product(6, 47, 47), 6 * 6 + 4);
        t.drop();
        Check.due("1 with 48", t.pair(4, 3), 7);
        Check.due("(0, 47) (0, 2)", t.product(7, 47, 2), 1);
    }

    private static void pairOfTheLeast() {
        GroupTowers t = new GroupTowers();
        t.cyclic(1);
        Check.due("1 with 1", t.pair(0, 0), 1);
        Check.due("order", t.order(1), 1);
        Check.due("0 0", t.product(1, 0, 0), 0);
    }

    /** One that makes a group; each could, if there were a place. */
    private static int make(GroupTowers t, int kind) {
        switch (kind) {
            case 0: return t.cyclic(2);
            case 1: return t.dihedral(2);
            case 2: return t.quaternions();
            case 3: return t.pair(0, 0);
            case 4: return t.table(0, 0, 1);
            default: return t.over(0, 1);
        }
    }

    /** "GROUPS (8) are numbered as they come"; "FULL" of all that make one. */
    private static void eighthPlaceAndNinth() {
        String[] names = {"cyclic", "dihedral", "quaternions", "pair", "table", "over"};
        int[] orders = {2, 4, 8, 4, 1, 4};
        for (int kind = 0; kind < 6; kind++) {
            GroupTowers t = new GroupTowers();
            t.cyclic(2);
            t.module(0, 2, 1);
            t.sheet(0, 0, 1);
            for (int g = 1; g < 7; g++) {
                Check.due(names[kind] + ": place " + g, make(t, (kind + g) % 6), g);
            }
            Check.due(names[kind] + ": one place before it is full", t.count(0), 7);
            Check.due(names[kind] + ": no number 7", t.order(7), BAD);
            Check.due(names[kind] + ": the last place", make(t, kind), 7);
            Check.due(names[kind] + ": its order", t.order(7), orders[kind]);
            for (int other = 0; other < 6; other++) {
                Check.due(names[other] + ": there is no ninth", make(t, other), FULL);
            }
            Check.due(names[kind] + ": full", t.count(0), 8);
            Check.due(names[kind] + ": no number 8", t.order(8), BAD);
            Check.due(names[kind] + ": the last one goes", t.drop(), 7);
            Check.due(names[kind] + ": a place again", make(t, kind), 7);
            Check.due(names[kind] + ": and full again", make(t, kind), FULL);
        }
    }

    /** "there is no such GROUP": one below 0, one behind the last, those far off. */
    private static void groupNumbers() {
        GroupTowers t = new GroupTowers();
        t.cyclic(2);
        t.cyclic(3);
        for (int g : new int[] {LEAST, -1, 2, 3, 7, 8, MOST}) {
            String of = " of group " + g;
            Check.due("pair" + of, t.pair(g, 0), BAD);
            Check.due("pair behind" + of, t.pair(0, g), BAD);
            Check.due("pair twice" + of, t.pair(g, g), BAD);
            Check.due("order" + of, t.order(g), BAD);
            Check.due("product" + of, t.product(g, 0, 0), BAD);
            Check.due("element" + of, t.element(g, 0, 0), BAD);
            Check.due("about" + of, t.about(g, 0), BAD);
            Check.due("made" + of, t.made(g, 0, 0), BAD);
            Check.due("same" + of, t.same(g, 0, 1), BAD);
            Check.due("same behind" + of, t.same(0, g, 1), BAD);
            Check.due("module" + of, t.module(g, 2, 1), BAD);
        }
        Check.due("the last group", t.order(1), 3);
        Check.due("the first with the last", t.pair(0, 1), 2);
        Check.due("count(0)", t.count(0), 3);
        Check.due("count(1)", t.count(1), 0);
    }

    private static void groupNumberAfterDrop() {
        GroupTowers t = new GroupTowers();
        t.cyclic(2);
        t.dihedral(4);
        Check.due("8 goes", t.drop(), 1);
        Check.due("order of what went", t.order(1), BAD);
        Check.due("product of what went", t.product(1, 0, 0), BAD);
        Check.due("element of what went", t.element(1, 0, 1), BAD);
        Check.due("about what went", t.about(1, 0), BAD);
        Check.due("made of what went", t.made(1, 0, 0), BAD);
        Check.due("same as what went", t.same(0, 1, 1), BAD);
        Check.due("pair with what went", t.pair(0, 1), BAD);
        Check.due("module of what went", t.module(1, 2, 1), BAD);
        Check.due("3 comes", t.cyclic(3), 1);
        Check.due("its order", t.order(1), 3);
        Check.due("the first element of 8 that it has not", t.product(1, 3, 0), BAD);
        Check.due("what it is made of", t.about(1, 5), 1);
        Check.due("its elements", t.about(1, 0), 3);
    }

    /** "NONE". */
    private static void dropOfNothing() {
        GroupTowers t = new GroupTowers();
        Check.due("nothing to drop", t.drop(), NONE);
        for (int g = 0; g < 8; g++) {
            t.cyclic(1 + g);
        }
        for (int g = 7; g >= 0; g--) {
            Check.due("drop", t.drop(), g);
            Check.due("count", t.count(0), g);
        }
        Check.due("nothing is left", t.drop(), NONE);
        Check.due("still nothing", t.drop(), NONE);
        Check.due("count", t.count(0), 0);
        Check.due("the next has number 0", t.cyclic(2), 0);
    }

    /** "STATE: a MODULE is of it": the latest group, any of the modules. */
    private static void dropOfAModulesGroup() {
        GroupTowers t = new GroupTowers();
        t.cyclic(2);
        t.cyclic(2);
        t.module(0, 2, 1);
        Check.due("a module is of its like alone", t.drop(), 1);
        Check.due("a module is of it", t.drop(), STATE);
        t.cyclic(3);
        t.module(1, 2, 1);
        t.module(0, 2, 1);
        Check.due("a module is of it, not the latest", t.drop(), STATE);
        t.leave();
        Check.due("a module is of it, the latest", t.drop(), STATE);
        t.leave();
        Check.due("the one that was has left", t.drop(), 1);
        Check.due("the first module's", t.drop(), STATE);
        Check.due("it stays", t.order(0), 2);
        Check.due("so does its module", t.sound(0), 0);
        Check.due("the group over it", t.over(0, 1), 1);
        Check.due("of that there is no module", t.drop(), 1);
        Check.due("the module leaves", t.leave(), 0);
        Check.due("now it goes", t.drop(), 0);
    }

    /** "ELEMENTS 0 to n - 1". */
    private static void elements() {
        GroupTowers t = new GroupTowers();
        t.cyclic(1);
        t.cyclic(7);
        t.dihedral(24);
        int[] sizes = {1, 7, 48};
        for (int g = 0; g < 3; g++) {
            int n = sizes[g];
            for (int x : new int[] {LEAST, -1, n, n + 1, 48, 49, MOST}) {
                String of = " of " + x + ", order " + n;
                Check.due("product" + of, t.product(g, x, 0), BAD);
                Check.due("product behind" + of, t.product(g, 0, x), BAD);
                Check.due("made" + of, t.made(g, x, 0), BAD);
                Check.due("made behind" + of, t.made(g, 0, x), BAD);
                for (int what = 0; what < 4; what++) {
                    Check.due("element" + of, t.element(g, x, what), BAD);
                }
            }
            Check.due("0 with the last", t.product(g, 0, n - 1), n - 1);
            Check.due("the last with 0", t.product(g, n - 1, 0), n - 1);
            Check.due("the first turned", t.element(g, 0, 3), 0);
            Check.due("made of the first and the last", t.made(g, 0, n - 1), g == 2 ? 2 : n);
            Check.due("made of the last and the first", t.made(g, n - 1, 0), g == 2 ? 2 : n);
        }
        Check.due("inverse of the last turn over", t.element(2, 47, 0), 47);
        Check.due("inverse of the last of 7", t.element(1, 6, 0), 1);
    }

    /** element: what is 0, 1, 2 or 3. */
    private static void whatOfAnElement() {
        GroupTowers t = new GroupTowers();
        t.cyclic(5);
        int[] due = {2, 5, 5, 3};
        for (int what = 0; what < 4; what++) {
            Check.due("element 3 of 5: " + what, t.element(0, 3, what), due[what]);
        }
        for (int what : new int[] {LEAST, -1, 4, 5, MOST}) {
            Check.due("element: " + what, t.element(0, 3, what), BAD);
        }
    }

    /** "1 of 0". */
    private static void zeroIsTakenOnce() {
        GroupTowers t = new GroupTowers();
        t.cyclic(1);
        t.cyclic(48);
        t.quaternions();
        for (int g = 0; g < 3; g++) {
            Check.due("0 of group " + g, t.element(g, 0, 1), 1);
            Check.due("its inverse", t.element(g, 0, 0), 0);
            Check.due("all go with it", t.element(g, 0, 2), t.order(g));
        }
        Check.due("1 of 48", t.element(1, 1, 1), 48);
        Check.due("24 of 48", t.element(1, 24, 1), 2);
        Check.due("32 of 48", t.element(1, 32, 1), 3);
        Check.due("47 of 48", t.element(1, 47, 1), 48);
    }

    /** "of all y": those too that leave x where it is, and the last one. */
    private static void leastTurnedIsItselfToo() {
        GroupTowers t = new GroupTowers();
        t.cyclic(48);
        Check.due("nothing turns 47", t.element(0, 47, 3), 47);
        t.dihedral(24);
        Check.due("only turns over turn 23", t.element(1, 23, 3), 1);
        Check.due("12 is its own opposite", t.element(1, 12, 3), 12);
        Check.due("the last turn over", t.element(1, 47, 3), 25);
    }

    /** about: what is 0 to 5. */
    private static void whatOfAGroup() {
        GroupTowers t = new GroupTowers();
        t.quaternions();
        int[] due = {2, 2, 4, 5, 0, 2};
        for (int what = 0; what < 6; what++) {
            Check.due("about quaternions: " + what, t.about(0, what), due[what]);
        }
        for (int what : new int[] {LEAST, -1, 6, 7, MOST}) {
            Check.due("about: " + what, t.about(0, what), BAD);
        }
    }

    /** 0 is all there is: nothing needs to be taken to make it. */
    private static void aboutTheLeastGroup() {
        GroupTowers t = new GroupTowers();
        t.cyclic(1);
        int[] due = {1, 1, 1, 1, 1, 0};
        for (int what = 0; what < 6; what++) {
            Check.due("about the least: " + what, t.about(0, what), due[what]);
        }
    }

    private static void aboutIs(GroupTowers t, int g, int... due) {
        for (int what = 0; what < 6; what++) {
            Check.due("about " + g + " of 48: " + what, t.about(g, what), due[what]);
        }
    }

    private static void aboutTheGreatestGroups() {
        GroupTowers t = new GroupTowers();
        t.cyclic(48);
        aboutIs(t, 0, 48, 1, 48, 48, 1, 1);
        t.dihedral(24);
        aboutIs(t, 1, 2, 12, 24, 15, 0, 2);
        t.dihedral(3);
        t.quaternions();
        t.pair(2, 3);
        aboutIs(t, 4, 2, 6, 12, 15, 0, 3);
        // 32 is the greatest order of which five elements are needed.
        GroupTowers twos = new GroupTowers();
        twos.cyclic(2);
        for (int g = 1; g < 5; g++) {
            twos.pair(g - 1, 0);
        }
        Check.due("order", twos.order(4), 32);
        Check.due("five make all", twos.about(4, 5), 5);
        Check.due("each once more is 0", twos.about(4, 2), 2);
    }

    /** "the least number of ELEMENTS that make all": 12 has 1, 5, 7, 11, here named so that others stand between. */
    private static void oneMakesAllWhateverItsName() {
        int[] was = {0, 2, 3, 1, 4, 5, 6, 7, 8, 11, 10, 9};
        int[] name = new int[12];
        for (int x = 0; x < 12; x++) {
            name[was[x]] = x;
        }
        GroupTowers t = new GroupTowers();
        t.sheet(0, 0, 144);
        for (int i = 0; i < 144; i++) {
            t.lay(0, i, name[(was[i / 12] + was[i % 12]) % 12]);
        }
        Check.due("12 renamed", t.table(0, 0, 12), 0);
        Check.due("one makes all", t.about(0, 5), 1);
        t.cyclic(12);
        Check.due("the first row of one", t.same(0, 1, 1), 1);
        Check.due("the first row of the other", t.same(1, 0, 1), 1);
    }

    /** "(0 too)". */
    private static void madeCountsZero() {
        GroupTowers t = new GroupTowers();
        t.cyclic(1);
        Check.due("the least group", t.made(0, 0, 0), 1);
        t.cyclic(48);
        Check.due("0 and 0", t.made(1, 0, 0), 1);
        Check.due("24 and 24", t.made(1, 24, 24), 2);
        Check.due("24 and 0", t.made(1, 24, 0), 2);
        Check.due("16 and 24", t.made(1, 16, 24), 6);
        Check.due("16 and 3 make all", t.made(1, 16, 3), 48);
        Check.due("47 and 47 make all", t.made(1, 47, 47), 48);
        Check.due("46 and 46 make half", t.made(1, 46, 46), 24);
        t.dihedral(24);
        Check.due("two turns over, one apart, make all", t.made(2, 46, 47), 48);
    }

    /** What was asked ahead, of more elements and of a greater group, is not in later answers. */
    private static void askingChangesNothing() {
        GroupTowers t = new GroupTowers();
        t.dihedral(24);
        t.cyclic(6);
        for (int again = 0; again < 2; again++) {
            Check.due("derived of dihedral 24", t.about(0, 1), 12);
            Check.due("made by two", t.made(0, 12, 24), 4);
            Check.due("made by 0", t.made(0, 0, 0), 1);
            Check.due("made by all of 6", t.made(1, 1, 5), 6);
            Check.due("derived of 6", t.about(1, 1), 1);
            Check.due("made by 0 of 6", t.made(1, 0, 0), 1);
            Check.due("like itself", t.same(0, 0, 20000), 1);
            Check.due("6 like itself", t.same(1, 1, 1), 1);
            Check.due("makers", t.about(0, 5), 2);
            Check.due("makers of 6", t.about(1, 5), 1);
        }
    }
}
