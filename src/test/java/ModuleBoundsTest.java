/** Promises 16 to 19 and 27: each sentence that names a bound, by itself. */
public final class ModuleBoundsTest {
    private static final int BAD = GroupTowers.BAD, STATE = GroupTowers.STATE, FULL = GroupTowers.FULL;
    private static final int NONE = GroupTowers.NONE;
    private static final int LEAST = Integer.MIN_VALUE, MOST = Integer.MAX_VALUE;
    private static final int[] PRIMES = {2, 3, 5};

    private ModuleBoundsTest() {
    }

    public static void main(String[] args) {
        ordersUpTo8();
        primes();
        ranks();
        sixthPlaceAndSeventh();
        unitsAtFirst();
        moduleNumbers();
        actsOnElements();
        actsByNumbers();
        actsOnRankOne();
        soundOfZero();
        soundFirstAndLast();
        soundLeastOrder();
        dimensionWhat();
        dimensionNotSound();
        dimensionOfOneElement();
        dimensionGreatest();
        leaveNothing();
        leaveAll();
        Check.end();
    }

    /** "a GROUP G of an ORDER of 8 at most"; "BAD: also an ORDER above 8". */
    private static void ordersUpTo8() {
        for (int n = 1; n <= 48; n++) {
            GroupTowers t = new GroupTowers();
            t.cyclic(n);
            Check.due("module of order " + n, t.module(0, 2, 1), n <= 8 ? 0 : BAD);
            Check.due("count with order " + n, t.count(1), n <= 8 ? 1 : 0);
        }
        GroupTowers t = new GroupTowers();
        t.dihedral(5);
        t.dihedral(4);
        Check.due("dihedral 5", t.module(0, 2, 1), BAD);
        Check.due("dihedral 4", t.module(1, 2, 1), 0);
        Check.due("its last element acts", t.acts(0, 7, 1, 0, 0, 0), 1);
        Check.due("and is the last", t.acts(0, 8, 1, 0, 0, 0), BAD);
    }

    /** "a prime P (2, 3, 5)". */
    private static void primes() {
        GroupTowers t = new GroupTowers();
        t.cyclic(2);
        for (int p : new int[] {LEAST, -5, -3, -2, -1, 0, 1, 4, 6, 7, 8, 9, 11, MOST}) {
            Check.due("prime " + p, t.module(0, p, 1), BAD);
            Check.due("prime " + p + ", rank 2", t.module(0, p, 2), BAD);
        }
        Check.due("none of these", t.count(1), 0);
        for (int i = 0; i < 3; i++) {
            Check.due("prime " + PRIMES[i], t.module(0, PRIMES[i], 1), i);
        }
    }

    /** "a RANK R (1, 2)". */
    private static void ranks() {
        GroupTowers t = new GroupTowers();
        t.cyclic(2);
        for (int r : new int[] {LEAST, -2, -1, 0, 3, 4, MOST}) {
            Check.due("rank " + r, t.module(0, 2, r), BAD);
        }
        Check.due("none of these", t.count(1), 0);
        Check.due("rank 1", t.module(0, 2, 1), 0);
        Check.due("rank 2", t.module(0, 2, 2), 1);
        Check.due("vectors of rank 1", t.dimension(0, 0), 1);
        Check.due("vectors of rank 2", t.dimension(1, 0), 2);
    }

    /** "FULL: 6 are there". */
    private static void sixthPlaceAndSeventh() {
        GroupTowers t = new GroupTowers();
        t.cyclic(2);
        t.cyclic(9);
        for (int m = 0; m < 5; m++) {
            Check.due("place " + m, t.module(0, PRIMES[m % 3], 1 + m % 2), m);
        }
        Check.due("one place before it is full", t.count(1), 5);
        Check.due("no number 5", t.sound(5), BAD);
        Check.due("the last place", t.module(0, 2, 2), 5);
        Check.due("is sound", t.sound(5), 0);
        Check.due("there is no seventh", t.module(0, 2, 1), FULL);
        Check.due("no number 6", t.sound(6), BAD);
        Check.due("full", t.count(1), 6);
        Check.due("seventh of no group", t.module(2, 2, 1), BAD);
        Check.due("seventh of order 9", t.module(1, 2, 1), BAD);
        Check.due("seventh of no prime", t.module(0, 4, 1), BAD);
        Check.due("seventh of no rank", t.module(0, 2, 3), BAD);
        for (int m = 0; m < 6; m++) {
            Check.due("module " + m + " stays", t.dimension(m, 0), 1 + m % 2);
        }
        Check.due("the last leaves", t.leave(), 5);
        Check.due("a place again", t.module(0, 3, 1), 5);
        Check.due("full again", t.module(0, 3, 1), FULL);
    }

    /** "At first all are the unit": also where another module was, of more elements, that moved. */
    private static void unitsAtFirst() {
        GroupTowers t = new GroupTowers();
        t.cyclic(8);
        t.module(0, 5, 2);
        for (int x = 0; x < 8; x++) {
            Check.due("all to 0", t.acts(0, x, 0, 0, 0, 0), 1);
        }
        Check.due("0 moves", t.sound(0), 1000);
        t.leave();
        for (int r = 1; r <= 2; r++) {
            Check.due("a new one", t.module(0, 3, r), r - 1);
            Check.due("is sound", t.sound(r - 1), 0);
            Check.due("all stay", t.dimension(r - 1, 0), r);
            Check.due("no single is bound but 0", t.dimension(r - 1, 2), 0);
        }
    }

    /** "there is no such MODULE": one below 0, one behind the last, those far off. */
    private static void moduleNumbers() {
        GroupTowers t = new GroupTowers();
        t.cyclic(1);
        t.module(0, 2, 1);
        t.module(0, 3, 2);
        t.sheet(0, 0, 4);
        for (int m : new int[] {LEAST, -1, 2, 3, 5, 6, MOST}) {
            String of = " of module " + m;
            Check.due("acts" + of, t.acts(m, 0, 1, 0, 0, 0), BAD);
            Check.due("sound" + of, t.sound(m), BAD);
            Check.due("dimension" + of, t.dimension(m, 0), BAD);
            Check.due("twist" + of, t.twist(m, 0, 0, 0, 0), BAD);
            Check.due("over" + of, t.over(m, 0), BAD);
            Check.due("classOf" + of, t.classOf(m, 0, 0), BAD);
            Check.due("parts" + of, t.parts(m, 0), BAD);
            Check.due("sum" + of, t.sum(m, 0, 0), BAD);
            Check.due("times" + of, t.times(m, 0, 1), BAD);
        }
        Check.due("the last", t.acts(1, 0, 1, 0, 0, 1), 1);
        Check.due("the last is sound", t.sound(1), 0);
        Check.due("its class", t.classOf(1, 0, 0), 0);
        Check.due("no group of these", t.count(0), 1);
    }

    /** acts: x is 0 to n - 1. */
    private static void actsOnElements() {
        for (int n : new int[] {1, 2, 7, 8}) {
            GroupTowers t = new GroupTowers();
            t.cyclic(n);
            t.module(0, 2, 1);
            for (int x : new int[] {LEAST, -1, n, n + 1, 8, 48, MOST}) {
                Check.due("acts of " + x + ", order " + n, t.acts(0, x, 0, 0, 0, 0), BAD);
            }
            Check.due("all stay, order " + n, t.dimension(0, 0), 1);
            Check.due("the last, order " + n, t.acts(0, n - 1, 0, 0, 0, 0), 1);
            Check.due("0 by unit, order " + n, t.acts(0, 0, 1, 0, 0, 0), 1);
            Check.due("sound, order " + n, t.sound(0), n == 1 ? 0 : 1 + n + (n == 2 ? 1 : n - 2));
        }
    }

    /** "a number not 0 to P - 1", in each of the four places. */
    private static void actsByNumbers() {
        for (int p : PRIMES) {
            GroupTowers t = new GroupTowers();
            t.cyclic(2);
            t.module(0, p, 2);
            for (int place = 0; place < 4; place++) {
                for (int v : new int[] {LEAST, -p, -1, p, p + 1, MOST}) {
                    int[] a = {1, 0, 0, 1};
                    a[place] = v;
                    Check.due(v + " at " + place + " modulo " + p, t.acts(0, 1, a[0], a[1], a[2], a[3]), BAD);
                }
                Check.due("nothing moves", t.dimension(0, 0), 2);
                for (int v = 0; v < p; v++) {
                    int[] a = {1, 0, 0, 1};
                    a[place] = v;
                    String of = v + " at " + place + " modulo " + p;
                    Check.due(of, t.acts(0, 1, a[0], a[1], a[2], a[3]), 1);
                    boolean onPlace = place == 0 || place == 3;
                    boolean sound = onPlace ? v * v % p == 1 : v * 2 % p == 0;
                    Check.due(of + ": sound", t.sound(0), sound ? 0 : 4);
                }
                t.acts(0, 1, 1, 0, 0, 1);
            }
        }
    }

    /** "RANK 1: a, others 0". */
    private static void actsOnRankOne() {
        for (int p : PRIMES) {
            GroupTowers t = new GroupTowers();
            t.cyclic(2);
            t.module(0, p, 1);
            for (int v : new int[] {LEAST, -p, -1, p, p + 1, MOST}) {
                Check.due(v + " modulo " + p, t.acts(0, 1, v, 0, 0, 0), BAD);
            }
            for (int v : new int[] {LEAST, -1, 1, p - 1, p, MOST}) {
                Check.due("b " + v + " modulo " + p, t.acts(0, 1, p - 1, v, 0, 0), BAD);
                Check.due("c " + v + " modulo " + p, t.acts(0, 1, p - 1, 0, v, 0), BAD);
                Check.due("d " + v + " modulo " + p, t.acts(0, 1, p - 1, 0, 0, v), BAD);
            }
            Check.due("it stays, modulo " + p, t.dimension(0, 0), 1);
            Check.due("0 modulo " + p, t.acts(0, 1, 0, 0, 0, 0), 1);
            Check.due("which is not sound", t.sound(0), 4);
            Check.due("P - 1 modulo " + p, t.acts(0, 1, p - 1, 0, 0, 0), 1);
            Check.due("which is sound", t.sound(0), 0);
            Check.due("and moves, but for 2", t.dimension(0, 0), p == 2 ? 1 : 0);
        }
    }

    /** "1000: the MATRIX of 0 is not the unit", in each of its numbers, and whatever else is not so. */
    private static void soundOfZero() {
        GroupTowers t = new GroupTowers();
        t.cyclic(1);
        t.module(0, 2, 2);
        for (int code = 0; code < 16; code++) {
            t.acts(0, 0, code & 1, code >> 1 & 1, code >> 2 & 1, code >> 3);
            Check.due("matrix " + code, t.sound(0), code == 9 ? 0 : 1000);
        }
        t.module(0, 5, 1);
        for (int a = 0; a < 5; a++) {
            t.acts(1, 0, a, 0, 0, 0);
            Check.due("rank 1 by " + a, t.sound(1), a == 1 ? 0 : 1000);
        }
        t.cyclic(2);
        t.module(1, 3, 1);
        t.acts(2, 0, 2, 0, 0, 0);
        t.acts(2, 1, 0, 0, 0, 0);
        Check.due("0 moves, 1 1 is not so either", t.sound(2), 1000);
        t.acts(2, 0, 1, 0, 0, 0);
        Check.due("1 1 is not so", t.sound(2), 4);
    }

    /** "1 and n x + y, the first two". */
    private static void soundFirstAndLast() {
        GroupTowers t = new GroupTowers();
        t.cyclic(8);
        t.module(0, 3, 1);
        t.acts(0, 1, 0, 0, 0, 0);
        Check.due("1 1 is the first", t.sound(0), 1 + 8 + 1);
        t.acts(0, 1, 1, 0, 0, 0);
        t.acts(0, 7, 0, 0, 0, 0);
        Check.due("1 6 is 7", t.sound(0), 1 + 8 + 6);
        t.acts(0, 7, 1, 0, 0, 0);
        t.acts(0, 2, 2, 0, 0, 0);
        Check.due("1 1 is 2", t.sound(0), 1 + 8 + 1);
        t.dihedral(2);
        t.module(1, 3, 1);
        t.acts(1, 2, 2, 0, 0, 0);
        Check.due("1 2 is 3", t.sound(1), 1 + 4 + 2);
        t.acts(1, 3, 2, 0, 0, 0);
        Check.due("sound", t.sound(1), 0);
        t.module(1, 5, 1);
        t.acts(2, 2, 2, 0, 0, 0);
        t.acts(2, 3, 2, 0, 0, 0);
        Check.due("2 2 is 0", t.sound(2), 1 + 8 + 2);
    }

    /** Of 2 the last two, 1 and 1, are the only ones that can be it: 1 and n n - 1. */
    private static void soundLeastOrder() {
        GroupTowers t = new GroupTowers();
        t.cyclic(2);
        t.module(0, 5, 1);
        int[] due = {4, 0, 4, 4, 0};
        for (int a = 0; a < 5; a++) {
            t.acts(0, 1, a, 0, 0, 0);
            Check.due("1 by " + a, t.sound(0), due[a]);
        }
        t.cyclic(1);
        t.module(1, 5, 1);
        Check.due("of one element", t.sound(1), 0);
    }

    /** dimension: what is 0 to 6. */
    private static void dimensionWhat() {
        GroupTowers t = new GroupTowers();
        t.cyclic(2);
        t.module(0, 2, 1);
        int[] due = {1, 1, 0, 1, 0, 1, 1};
        for (int what = 0; what < 7; what++) {
            Check.due("dimension " + what, t.dimension(0, what), due[what]);
        }
        for (int what : new int[] {LEAST, -1, 7, 8, MOST}) {
            Check.due("dimension " + what, t.dimension(0, what), BAD);
        }
    }

    /** "STATE: it is not SOUND": for either reason, until it is again. */
    private static void dimensionNotSound() {
        GroupTowers t = new GroupTowers();
        t.cyclic(2);
        t.module(0, 2, 1);
        int[] due = {1, 1, 0, 1, 0, 1, 1};
        for (int x = 0; x < 2; x++) {
            t.acts(0, x, 0, 0, 0, 0);
            for (int what = 0; what < 7; what++) {
                Check.due(x + " by 0: dimension " + what, t.dimension(0, what), STATE);
            }
            Check.due(x + " by 0: what below", t.dimension(0, -1), BAD);
            Check.due(x + " by 0: what above", t.dimension(0, 7), BAD);
            t.acts(0, x, 1, 0, 0, 0);
            for (int what = 0; what < 7; what++) {
                Check.due(x + " by 1 again: dimension " + what, t.dimension(0, what), due[what]);
            }
        }
    }

    /** "for which it is 0": of one element there is no single and no pair but 0. */
    private static void dimensionOfOneElement() {
        for (int p : PRIMES) {
            for (int r = 1; r <= 2; r++) {
                GroupTowers t = new GroupTowers();
                t.cyclic(1);
                t.module(0, p, r);
                for (int what = 0; what < 7; what++) {
                    Check.due("dimension " + what, t.dimension(0, what), what == 0 ? r : 0);
                }
                Check.due("class 0 alone", t.sum(0, 0, 0), 0);
                Check.due("no class 1", t.sum(0, 0, 1), BAD);
                Check.due("the vectors are a group", t.over(0, 0), 1);
                Check.due("of their number", t.order(1), r == 1 ? p : p * p);
            }
        }
    }

    /** 2 with 2 with 2 has the most: 4096 classes. */
    private static void dimensionGreatest() {
        GroupTowers t = new GroupTowers();
        t.cyclic(2);
        t.pair(0, 0);
        t.pair(1, 0);
        t.module(2, 2, 2);
        int[] due = {2, 6, 0, 20, 8, 12, 6};
        for (int what = 0; what < 7; what++) {
            Check.due("2 with 2 with 2: dimension " + what, t.dimension(0, what), due[what]);
        }
        Check.due("the last class", t.sum(0, 4095, 0), 4095);
        Check.due("twice it", t.sum(0, 4095, 4095), 0);
        Check.due("one above", t.sum(0, 4096, 0), BAD);
    }

    /** "NONE". */
    private static void leaveNothing() {
        GroupTowers t = new GroupTowers();
        Check.due("nothing to leave", t.leave(), NONE);
        t.cyclic(2);
        Check.due("a group is no module", t.leave(), NONE);
        t.module(0, 2, 1);
        Check.due("it leaves", t.leave(), 0);
        Check.due("nothing is left", t.leave(), NONE);
        Check.due("the group stays", t.count(0), 1);
    }

    private static void leaveAll() {
        GroupTowers t = new GroupTowers();
        t.cyclic(2);
        for (int m = 0; m < 6; m++) {
            t.module(0, 2, 1);
        }
        for (int m = 5; m >= 0; m--) {
            Check.due("leave", t.leave(), m);
            Check.due("count", t.count(1), m);
            Check.due("no longer there", t.sound(m), BAD);
        }
        Check.due("nothing is left", t.leave(), NONE);
        Check.due("count", t.count(1), 0);
        Check.due("the next has number 0", t.module(0, 2, 1), 0);
    }
}
