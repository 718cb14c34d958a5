/** Promises 6 to 8 and 26: each sentence that names a bound, by itself. */
public final class SheetBoundsTest {
    private static final int BAD = GroupTowers.BAD, NONE = GroupTowers.NONE;
    private static final int LEAST = Integer.MIN_VALUE, MOST = Integer.MAX_VALUE;
    private static final int NULL = -11, INDEX = -12, CAST = -13, SIZE = -14;

    private SheetBoundsTest() {
    }

    public static void main(String[] args) {
        sheetNumbers();
        lanes();
        cellsUpTo144();
        sizeBelowZero();
        emptySheet();
        fullSheet();
        newRowOfZeros();
        newRowOfAnotherLane();
        layIndex();
        layOnNothing();
        layWrapsToBytes();
        layKeepsInts();
        byteCellsModuloP();
        tableOrders();
        tableTakenAsOfALane();
        tableOfTooFewCells();
        tableProductOutOfRange();
        tableOfZero();
        tablePlaceByPlace();
        tableUnlikeProducts();
        tableFirstUnlike();
        tableLastUnlike();
        tableWithoutInverse();
        tableOfTheGreatestOrder();
        tableWhereAGroupWent();
        countOfWhat();
        Check.end();
    }

    private static void layAll(GroupTowers t, int k, int... cells) {
        for (int i = 0; i < cells.length; i++) {
            Check.due("lay " + i, t.lay(k, i, cells[i]), 1);
        }
    }

    /** "SHEETS 0 to 3". */
    private static void sheetNumbers() {
        GroupTowers t = new GroupTowers();
        t.cyclic(1);
        t.module(0, 2, 1);
        for (int k : new int[] {LEAST, -1, 4, 5, MOST}) {
            Check.due("sheet " + k, t.sheet(k, 0, 1), BAD);
            Check.due("lay on " + k, t.lay(k, 0, 0), BAD);
            Check.due("table of " + k, t.table(k, 0, 1), BAD);
            Check.due("classOf " + k, t.classOf(0, k, 0), BAD);
        }
        for (int k = 0; k < 4; k++) {
            Check.due("nothing on " + k, t.lay(k, 0, 0), NULL);
            Check.due("sheet " + k, t.sheet(k, k % 2, 1), 1);
            Check.due("lay on " + k, t.lay(k, 0, 0), 1);
            Check.due("table of " + k, t.table(k, k % 2, 1), 1 + k);
            Check.due("classOf " + k, t.classOf(0, k, k % 2), 0);
        }
    }

    /** "BYTES (lane 0), INTS (1)". */
    private static void lanes() {
        GroupTowers t = new GroupTowers();
        t.cyclic(1);
        t.module(0, 2, 1);
        for (int lane : new int[] {LEAST, -1, 2, 3, MOST}) {
            Check.due("sheet of lane " + lane, t.sheet(0, lane, 1), BAD);
            Check.due("still nothing", t.count(2), NONE);
            Check.due("table of lane " + lane, t.table(0, lane, 1), BAD);
            Check.due("classOf of lane " + lane, t.classOf(0, 0, lane), BAD);
        }
        for (int lane = 0; lane < 2; lane++) {
            Check.due("sheet of lane " + lane, t.sheet(0, lane, 1), 1);
            Check.due("table of lane " + lane, t.table(0, lane, 1), 1 + lane);
            Check.due("classOf of lane " + lane, t.classOf(0, 0, lane), 0);
        }
    }

    /** "with 0 to 144 CELLS"; "BAD: also n above 144". */
    private static void cellsUpTo144() {
        for (int lane = 0; lane < 2; lane++) {
            GroupTowers t = new GroupTowers();
            for (int n : new int[] {145, 146, 256, MOST}) {
                Check.due("sheet of " + n, t.sheet(0, lane, n), BAD);
            }
            Check.due("nothing of that", t.count(2), NONE);
            for (int n = 0; n <= 144; n++) {
                Check.due("sheet of " + n, t.sheet(0, lane, n), 1);
                Check.due("its cells", t.count(2), n);
            }
        }
    }

    /** "-10 - 4". */
    private static void sizeBelowZero() {
        GroupTowers t = new GroupTowers();
        for (int n : new int[] {-1, -2, -144, -145, LEAST}) {
            Check.due("bytes " + n, t.sheet(0, 0, n), SIZE);
            Check.due("ints " + n, t.sheet(3, 1, n), SIZE);
        }
        Check.due("nothing of that", t.count(2), NONE);
        Check.due("nor on the last", t.lay(3, 0, 0), NULL);
    }

    /** A row without cells is not nothing: its fault is INDEX, or CAST. */
    private static void emptySheet() {
        GroupTowers t = new GroupTowers();
        t.cyclic(1);
        t.module(0, 2, 1);
        for (int lane = 0; lane < 2; lane++) {
            Check.due("no cells", t.sheet(0, lane, 0), 1);
            Check.due("0 cells", t.count(2), 0);
            Check.due("lay at 0", t.lay(0, 0, 0), INDEX);
            Check.due("lay at -1", t.lay(0, -1, 0), INDEX);
            Check.due("table", t.table(0, lane, 1), INDEX);
            Check.due("classOf", t.classOf(0, 0, lane), INDEX);
            Check.due("table of the other lane", t.table(0, 1 - lane, 1), CAST);
            Check.due("classOf of the other lane", t.classOf(0, 0, 1 - lane), CAST);
        }
    }

    /** 144 cells, each laid and each read. */
    private static void fullSheet() {
        for (int lane = 0; lane < 2; lane++) {
            GroupTowers t = new GroupTowers();
            Check.due("144 cells", t.sheet(2, lane, 144), 1);
            for (int i = 0; i < 144; i++) {
                Check.due("lay " + i, t.lay(2, i, (i / 12 + i % 12) % 12), 1);
            }
            Check.due("there is no cell 144", t.lay(2, 144, 0), INDEX);
            Check.due("there is no cell -1", t.lay(2, -1, 0), INDEX);
            Check.due("table of 12", t.table(2, lane, 12), 0);
            for (int i = 0; i < 144; i++) {
                Check.due("product " + i, t.product(0, i / 12, i % 12), (i / 12 + i % 12) % 12);
            }
        }
    }

    /** "a new row of CELLS 0": whatever was laid, a shorter or a longer row alike. */
    private static void newRowOfZeros() {
        GroupTowers t = new GroupTowers();
        t.cyclic(2);
        t.module(0, 2, 2);
        for (int lane = 0; lane < 2; lane++) {
            Check.due("new", t.sheet(0, lane, 8), 1);
            Check.due("0 at first", t.classOf(0, 0, lane), 0);
            Check.due("lay the last", t.lay(0, 7, 1), 1);
            Check.due("the last", t.classOf(0, 0, lane), 2);
            Check.due("as long", t.sheet(0, lane, 8), 1);
            Check.due("0 again", t.classOf(0, 0, lane), 0);
            t.lay(0, 7, 1);
            Check.due("shorter", t.sheet(0, lane, 7), 1);
            Check.due("too short", t.classOf(0, 0, lane), INDEX);
            Check.due("longer", t.sheet(0, lane, 9), 1);
            Check.due("0 where the first row had 1", t.classOf(0, 0, lane), 0);
        }
        t.sheet(1, 0, 1);
        t.lay(1, 0, 1);
        t.sheet(0, 0, 1);
        Check.due("another sheet stays", t.table(1, 0, 1), -100);
    }

    private static void newRowOfAnotherLane() {
        GroupTowers t = new GroupTowers();
        t.sheet(0, 0, 1);
        Check.due("bytes as ints", t.table(0, 1, 1), CAST);
        t.sheet(0, 1, 1);
        Check.due("ints as bytes", t.table(0, 0, 1), CAST);
        Check.due("ints", t.table(0, 1, 1), 0);
        Check.due("a refused lane", t.sheet(0, 2, 1), BAD);
        Check.due("a refused size", t.sheet(0, 0, -1), SIZE);
        Check.due("another refused size", t.sheet(0, 0, 145), BAD);
        Check.due("ints still", t.table(0, 1, 1), 1);
    }

    /** "INDEX". */
    private static void layIndex() {
        GroupTowers t = new GroupTowers();
        for (int n : new int[] {1, 2, 143, 144}) {
            t.sheet(0, 0, n);
            t.sheet(1, 1, n);
            for (int k = 0; k < 2; k++) {
                for (int i : new int[] {LEAST, -144, -1, n, n + 1, 145, MOST}) {
                    Check.due("lay at " + i + " of " + n, t.lay(k, i, 0), INDEX);
                }
                Check.due("lay at the first of " + n, t.lay(k, 0, 0), 1);
                Check.due("lay at the last of " + n, t.lay(k, n - 1, 0), 1);
            }
        }
    }

    /** "NULL", wherever it is laid. */
    private static void layOnNothing() {
        GroupTowers t = new GroupTowers();
        for (int i : new int[] {LEAST, -1, 0, 1, 144, MOST}) {
            Check.due("lay at " + i + " on nothing", t.lay(3, i, 1), NULL);
        }
        t.sheet(0, 0, 2);
        Check.due("another sheet is nothing still", t.lay(3, 0, 1), NULL);
    }

    /** What cell 0 is: by a table of one element, and by pairs of one, which are 0 modulo 5 (and 3) or none. */
    private static void cellIs(String of, GroupTowers t, int lane, int v, int due) {
        Check.due(of + ": lay", t.lay(0, 0, v), 1);
        int got = t.table(0, lane, 1);
        Check.due(of + " is 0", got >= 0 ? 0 : got, due == 0 ? 0 : -100);
        if (got >= 0) {
            t.drop();
        }
        Check.due(of + " is 0 modulo 5", t.classOf(0, 0, lane), Math.floorMod(due, 5) == 0 ? 0 : NONE);
        Check.due(of + " is 0 modulo 3", t.classOf(1, 0, lane), Math.floorMod(due, 3) == 0 ? 0 : NONE);
    }

    private static GroupTowers forCells(int lane) {
        GroupTowers t = new GroupTowers();
        t.cyclic(1);
        t.module(0, 5, 1);
        t.module(0, 3, 1);
        t.sheet(0, lane, 1);
        return t;
    }

    /** "its lowest bits": of a byte eight. */
    private static void layWrapsToBytes() {
        GroupTowers t = forCells(0);
        int[][] laid = {{0, 0}, {127, 127}, {128, -128}, {129, -127}, {255, -1}, {256, 0}, {257, 1}, {-1, -1},
            {-128, -128}, {-129, 127}, {-255, 1}, {-256, 0}, {-257, -1}, {MOST, -1}, {LEAST, 0}, {65536, 0},
            {383, 127}, {384, -128}};
        for (int[] one : laid) {
            cellIs(one[0] + " as a byte", t, 0, one[0], one[1]);
        }
    }

    /** Of an int all 32 are the lowest ones. */
    private static void layKeepsInts() {
        GroupTowers t = forCells(1);
        for (int v : new int[] {0, 127, 128, 255, 256, 65536, -1, -256, MOST, MOST - 1, LEAST, LEAST + 1, LEAST + 3}) {
            cellIs(v + " as an int", t, 1, v, v);
        }
    }

    /** "modulo P, 0 or more", of bytes below 0. */
    private static void byteCellsModuloP() {
        GroupTowers t = new GroupTowers();
        t.cyclic(3);
        t.module(0, 3, 1);
        t.sheet(0, 0, 9);
        // f(1, 2) = f(2, 1) = f(2, 2) + f(1, 1): class c has 0 c c c.
        t.lay(0, 5, 255);
        t.lay(0, 7, -1);
        t.lay(0, 8, 128);
        Check.due("-1, -1, -128: 2, 2, 1", t.classOf(0, 0, 0), NONE);
        t.lay(0, 8, -127);
        Check.due("-1, -1, -127: 2, 2, 2", t.classOf(0, 0, 0), 2);
        t.lay(0, 4, 253);
        Check.due("-3 is 0", t.classOf(0, 0, 0), 2);
    }

    /** "ORDER n (1 to 12)". */
    private static void tableOrders() {
        GroupTowers t = new GroupTowers();
        t.sheet(0, 0, 144);
        for (int n : new int[] {LEAST, -1, 0, 13, 14, 48, 46341, 65536, MOST}) {
            Check.due("table of " + n, t.table(0, 0, n), BAD);
        }
        Check.due("none of these", t.count(0), 0);
        for (int n = 1; n <= 12; n++) {
            t.sheet(0, 0, n * n);
            for (int i = 0; i < n * n; i++) {
                t.lay(0, i, (i / n + i % n) % n);
            }
            Check.due("table of " + n, t.table(0, 0, n), 0);
            Check.due("its order", t.order(0), n);
            Check.due("its last product", t.product(0, n - 1, n - 1), Math.max(n - 2, 0));
            t.drop();
        }
    }

    /** "CAST". */
    private static void tableTakenAsOfALane() {
        GroupTowers t = new GroupTowers();
        t.sheet(0, 0, 1);
        t.sheet(1, 1, 1);
        Check.due("bytes as ints", t.table(0, 1, 1), CAST);
        Check.due("ints as bytes", t.table(1, 0, 1), CAST);
        Check.due("nothing as bytes", t.table(2, 0, 1), NULL);
        Check.due("nothing as ints", t.table(2, 1, 1), NULL);
        Check.due("bytes", t.table(0, 0, 1), 0);
        Check.due("ints", t.table(1, 1, 1), 1);
    }

    /** "INDEX: n n CELLS are not there". */
    private static void tableOfTooFewCells() {
        GroupTowers t = new GroupTowers();
        for (int n = 1; n <= 12; n++) {
            t.sheet(0, 0, n * n - 1);
            Check.due("a cell too few for " + n, t.table(0, 0, n), INDEX);
            t.sheet(0, 0, n * n);
            // All are 0: that is no table, but for one element, and what is not so is at (0, 1).
            Check.due("just enough for " + n, t.table(0, 0, n), n == 1 ? 0 : -101);
        }
        t.sheet(0, 0, 144);
        Check.due("more than enough", t.table(0, 0, 1), 1);
    }

    /** "a product that is not 0 to n - 1". */
    private static void tableProductOutOfRange() {
        for (int wrong : new int[] {3, 4, -1, 127, -128}) {
            for (int place = 0; place < 9; place++) {
                GroupTowers t = new GroupTowers();
                t.sheet(0, 0, 9);
                layAll(t, 0, 0, 1, 2, 1, 2, 0, 2, 0, 1);
                t.lay(0, place, wrong);
                Check.due(wrong + " at " + place, t.table(0, 0, 3), -100 - place);
                Check.due("no group", t.count(0), 0);
            }
        }
        GroupTowers t = new GroupTowers();
        t.sheet(0, 1, 9);
        layAll(t, 0, 0, 1, 2, 1, 2, 0, 2, 0, LEAST);
        Check.due("far below", t.table(0, 1, 3), -108);
        t.lay(0, 8, MOST);
        Check.due("far above", t.table(0, 1, 3), -108);
        t.lay(0, 8, 1);
        Check.due("mended", t.table(0, 1, 3), 0);
    }

    /** "of 0 with x not x, likewise x with 0". */
    private static void tableOfZero() {
        for (int x = 0; x < 3; x++) {
            for (int wrong = 0; wrong < 3; wrong++) {
                GroupTowers t = new GroupTowers();
                t.sheet(0, 0, 9);
                layAll(t, 0, 0, 1, 2, 1, 2, 0, 2, 0, 1);
                t.lay(0, x, wrong);
                Check.due("0 with " + x + " is " + wrong, t.table(0, 0, 3), wrong == x ? 0 : -100 - x);
                t.lay(0, x, x);
                t.lay(0, 3 * x, wrong);
                Check.due(x + " with 0 is " + wrong, t.table(0, 0, 3), wrong == x ? 1 : -100 - 3 * x);
            }
        }
    }

    /** "(place by place)": the kinds of what is not so are mixed, the least place is told. */
    private static void tablePlaceByPlace() {
        GroupTowers t = new GroupTowers();
        t.sheet(0, 0, 9);
        layAll(t, 0, 0, 1, 9, 0, 9, 0, 0, 0, 9);
        Check.due("a product above ahead", t.table(0, 0, 3), -102);
        t.lay(0, 2, 1);
        Check.due("0 with 2 ahead", t.table(0, 0, 3), -102);
        t.lay(0, 2, 2);
        Check.due("1 with 0 ahead", t.table(0, 0, 3), -103);
        t.lay(0, 3, 1);
        Check.due("1 1 ahead", t.table(0, 0, 3), -104);
        t.lay(0, 4, 2);
        Check.due("2 with 0 ahead", t.table(0, 0, 3), -106);
        t.lay(0, 6, 2);
        Check.due("the last place", t.table(0, 0, 3), -108);
        t.lay(0, 8, 1);
        Check.due("all are right", t.table(0, 0, 3), 0);
    }

    /** "1000 and n n x + n y + z, of which the two products are unlike": all that are right by places otherwise. */
    private static void tableUnlikeProducts() {
        for (int code = 0; code < 81; code++) {
            int[] c = {0, 1, 2, 1, code % 3, code / 3 % 3, 2, code / 9 % 3, code / 27};
            int due = 0;
            for (int i = 0; i < 27 && due == 0; i++) {
                if (c[3 * c[i / 3] + i % 3] != c[3 * (i / 9) + c[3 * (i / 3 % 3) + i % 3]]) {
                    due = -1100 - i;
                }
            }
            for (int x = 0; x < 3 && due == 0; x++) {
                if (c[3 * x] != 0 && c[3 * x + 1] != 0 && c[3 * x + 2] != 0) {
                    due = -3100 - x;
                }
            }
            GroupTowers t = new GroupTowers();
            t.sheet(0, 0, 9);
            layAll(t, 0, c);
            Check.due("table " + code, t.table(0, 0, 3), due);
            Check.due("a group of it", t.count(0), due == 0 ? 1 : 0);
        }
    }

    /** 0 with all goes with all products: (1 1) 1 of two, or of more, is the first that can be unlike. */
    private static void tableFirstUnlike() {
        GroupTowers t = new GroupTowers();
        t.sheet(0, 0, 9);
        layAll(t, 0, 0, 1, 2, 1, 2, 1, 2, 2, 1);
        Check.due("(1 1) 1 is 2, 1 (1 1) is 1", t.table(0, 0, 3), -1100 - (9 + 3 + 1));
    }

    /** All but the last are swallowed by 1; for it (x x) x is 2, x (x x) is 3: only the last place of all is unlike. */
    private static void tableLastUnlike() {
        for (int n = 6; n <= 12; n++) {
            GroupTowers t = new GroupTowers();
            t.sheet(0, 0, n * n);
            for (int i = 0; i < n * n; i++) {
                t.lay(0, i, i < n ? i : i % n == 0 ? i / n : 1);
            }
            t.lay(0, n * n - 1, n - 2);
            t.lay(0, n * (n - 2) + n - 1, 2);
            t.lay(0, n * (n - 1) + n - 2, 3);
            Check.due("the last products are unlike, " + n, t.table(0, 0, n), -1100 - (n * n * n - 1));
        }
    }

    /** "3000 and x, that has no INVERSE": the least such, where all products are alike. */
    private static void tableWithoutInverse() {
        for (int n = 2; n <= 12; n++) {
            GroupTowers t = new GroupTowers();
            t.sheet(0, 0, n * n);
            // The greater one of two: nothing but 0 comes back to 0.
            for (int i = 0; i < n * n; i++) {
                t.lay(0, i, Math.max(i / n, i % n));
            }
            Check.due("the greater of two, " + n, t.table(0, 0, n), -3101);
            // 0 to n - 2 go round, the last one swallows: it alone has no inverse.
            for (int i = 0; i < n * n; i++) {
                boolean swallowed = i / n == n - 1 || i % n == n - 1;
                t.lay(0, i, swallowed ? n - 1 : (i / n + i % n) % (n - 1));
            }
            Check.due("the last one swallows, " + n, t.table(0, 0, n), -3100 - (n - 1));
            Check.due("no group", t.count(0), 0);
        }
    }

    private static void tableOfTheGreatestOrder() {
        GroupTowers t = new GroupTowers();
        t.sheet(0, 1, 144);
        t.cyclic(2);
        t.dihedral(3);
        t.pair(1, 0);
        for (int i = 0; i < 144; i++) {
            t.lay(0, i, t.product(2, i / 12, i % 12));
        }
        Check.due("12", t.table(0, 1, 12), 3);
        for (int i = 0; i < 144; i++) {
            Check.due("product " + i, t.product(3, i / 12, i % 12), t.product(2, i / 12, i % 12));
        }
        t.lay(0, 143, 1);
        Check.due("11 11 is 1", t.table(0, 1, 12), -1100 - firstUnlike(t));
        t.lay(0, 143, 12);
        Check.due("11 11 is 12", t.table(0, 1, 12), -243);
    }

    /** A greater group, or a table that was refused, had its place: nothing of that is left. */
    private static void tableWhereAGroupWent() {
        GroupTowers t = new GroupTowers();
        t.sheet(0, 0, 144);
        t.sheet(1, 0, 4);
        layAll(t, 1, 0, 1, 1, 0);
        for (int i = 0; i < 144; i++) {
            t.lay(0, i, i == 143 ? 12 : (i / 12 + i % 12) % 12);
        }
        t.cyclic(48);
        t.drop();
        Check.due("2, where 48 was", t.table(1, 0, 2), 0);
        Check.due("order", t.order(0), 2);
        Check.due("1 1", t.product(0, 1, 1), 0);
        t.drop();
        Check.due("12, refused at its last place", t.table(0, 0, 12), -243);
        Check.due("2, where 12 was refused", t.table(1, 0, 2), 0);
        Check.due("inverse of 1", t.element(0, 1, 0), 1);
        Check.due("no element 2", t.product(0, 2, 0), BAD);
    }

    /** Of group 2 with 1 as the last product. */
    private static int firstUnlike(GroupTowers t) {
        int[] c = new int[144];
        for (int i = 0; i < 144; i++) {
            c[i] = i == 143 ? 1 : t.product(2, i / 12, i % 12);
        }
        for (int i = 0; i < 1728; i++) {
            if (c[12 * c[i / 12] + i % 12] != c[12 * (i / 144) + c[12 * (i / 12 % 12) + i % 12]]) {
                return i;
            }
        }
        return -1;
    }

    /** count: what is 0, 1 or 2; "(NONE: nothing)". */
    private static void countOfWhat() {
        GroupTowers t = new GroupTowers();
        for (int what : new int[] {LEAST, -1, 3, 4, MOST}) {
            Check.due("count of " + what, t.count(what), BAD);
        }
        t.sheet(1, 0, 7);
        t.sheet(3, 1, 9);
        Check.due("sheet 0 is nothing still", t.count(2), NONE);
        t.sheet(0, 1, 0);
        Check.due("no cells", t.count(2), 0);
        t.sheet(0, 0, 144);
        Check.due("all cells", t.count(2), 144);
        t.sheet(1, 0, 3);
        Check.due("sheet 0 alone is counted", t.count(2), 144);
        t.cyclic(2);
        t.cyclic(1);
        t.module(0, 2, 1);
        Check.due("groups", t.count(0), 2);
        Check.due("modules", t.count(1), 1);
    }
}
