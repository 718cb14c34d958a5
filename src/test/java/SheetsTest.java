/** Promises 6 to 8 and what 26 says of sheets. */
public final class SheetsTest {
    private SheetsTest() {
    }

    public static void main(String[] args) {
        sheet();
        lay();
        tableOfEachLane();
        tableFaults();
        tableFull();
        tableUnlike();
        tableWithoutInverse();
        greatestTable();
        Check.end();
    }

    private static void sheet() {
        GroupTowers t = new GroupTowers();
        Check.due("sheet below", t.sheet(-1, 0, 1), GroupTowers.BAD);
        Check.due("sheet above", t.sheet(4, 0, 1), GroupTowers.BAD);
        Check.due("lane below", t.sheet(0, -1, 1), GroupTowers.BAD);
        Check.due("lane above", t.sheet(0, 2, 1), GroupTowers.BAD);
        Check.due("145 cells", t.sheet(0, 0, 145), GroupTowers.BAD);
        Check.due("size below 0", t.sheet(0, 0, -1), -14);
        Check.due("size far below 0", t.sheet(0, 1, Integer.MIN_VALUE), -14);
        Check.due("no lane and size below 0", t.sheet(0, 2, -1), GroupTowers.BAD);
        Check.due("no sheet and size below 0", t.sheet(4, 0, -1), GroupTowers.BAD);
        Check.due("still nothing", t.count(2), GroupTowers.NONE);
        Check.due("144 cells", t.sheet(0, 1, 144), 1);
        Check.due("count", t.count(2), 144);
        Check.due("refused", t.sheet(0, 1, -1), -14);
        Check.due("as it was", t.count(2), 144);
        Check.due("no cells", t.sheet(0, 0, 0), 1);
        Check.due("no cells are not nothing", t.count(2), 0);
        Check.due("no cell to lay", t.lay(0, 0, 1), -12);
        Check.due("the last sheet", t.sheet(3, 0, 1), 1);
        Check.due("sheet 0 as it was", t.count(2), 0);
        // A new row has 0 in each cell, even where the last one had something.
        t.sheet(1, 0, 4);
        t.lay(1, 0, 1);
        Check.due("1 laid at 0", t.table(1, 0, 1), -100);
        t.sheet(1, 0, 4);
        Check.due("0 at 0 again", t.table(1, 0, 1), 0);
    }

    private static void lay() {
        GroupTowers t = new GroupTowers();
        Check.due("sheet below", t.lay(-1, 0, 0), GroupTowers.BAD);
        Check.due("sheet above", t.lay(4, 0, 0), GroupTowers.BAD);
        Check.due("nothing", t.lay(0, 0, 0), -11);
        Check.due("nothing, no index", t.lay(0, -1, 0), -11);
        t.sheet(0, 0, 1);
        Check.due("index below", t.lay(0, -1, 0), -12);
        Check.due("index above", t.lay(0, 1, 0), -12);
        Check.due("index far above", t.lay(0, Integer.MAX_VALUE, 0), -12);
        Check.due("256 as a byte", t.lay(0, 0, 256), 1);
        Check.due("is 0", t.table(0, 0, 1), 0);
        Check.due("255 as a byte", t.lay(0, 0, 255), 1);
        Check.due("is not 0", t.table(0, 0, 1), -100);
        t.sheet(0, 1, 1);
        Check.due("256 as an int", t.lay(0, 0, 256), 1);
        Check.due("is 256", t.table(0, 1, 1), -100);
        Check.due("0 as an int", t.lay(0, 0, 0), 1);
        Check.due("is 0", t.table(0, 1, 1), 1);
        byteIsSigned();
    }

    /** A byte of 255 is -1: modulo 3 that is 2, whereas 255 would be 0. */
    private static void byteIsSigned() {
        GroupTowers t = new GroupTowers();
        t.cyclic(2);
        t.module(0, 3, 1);
        t.sheet(0, 0, 4);
        t.lay(0, 0, 255);
        Check.due("255 at (0, 0)", t.classOf(0, 0, 0), GroupTowers.NONE);
        t.lay(0, 0, 254);
        Check.due("254 at (0, 0)", t.classOf(0, 0, 0), GroupTowers.NONE);
        t.lay(0, 0, 253);
        Check.due("253 at (0, 0)", t.classOf(0, 0, 0), 0);
    }

    private static void layAll(GroupTowers t, int k, int... cells) {
        for (int i = 0; i < cells.length; i++) {
            t.lay(k, i, cells[i]);
        }
    }

    private static void tableOfEachLane() {
        GroupTowers t = new GroupTowers();
        for (int lane = 0; lane < 2; lane++) {
            t.sheet(lane, lane, 9 + lane);
            layAll(t, lane, 0, 1, 2, 1, 2, 0, 2, 0, 1);
            Check.due("table of lane " + lane, t.table(lane, lane, 3), lane);
            Check.due("1 2", t.product(lane, 1, 2), 0);
            Check.due("inverse", t.element(lane, 1, 0), 2);
        }
        t.lay(0, 8, 7);
        Check.due("a table once read stays", t.product(0, 2, 2), 1);
    }

    private static void tableFaults() {
        GroupTowers t = new GroupTowers();
        t.sheet(0, 0, 8);
        Check.due("sheet below", t.table(-1, 0, 1), GroupTowers.BAD);
        Check.due("sheet above", t.table(4, 0, 1), GroupTowers.BAD);
        Check.due("lane below", t.table(0, -1, 1), GroupTowers.BAD);
        Check.due("lane above", t.table(0, 2, 1), GroupTowers.BAD);
        Check.due("order 0", t.table(0, 0, 0), GroupTowers.BAD);
        Check.due("order 13", t.table(0, 0, 13), GroupTowers.BAD);
        Check.due("nothing, no order", t.table(1, 0, 13), GroupTowers.BAD);
        Check.due("nothing", t.table(1, 0, 1), -11);
        Check.due("another lane", t.table(0, 1, 1), -13);
        Check.due("another lane, too few", t.table(0, 1, 3), -13);
        Check.due("too few", t.table(0, 0, 3), -12);
        Check.due("enough", t.table(0, 0, 1), 0);
        Check.due("a product that is not told right", t.table(0, 0, 2), -101);
        layAll(t, 0, 0, 1, 1, 2);
        Check.due("a product above", t.table(0, 0, 2), -103);
        layAll(t, 0, 0, 1, 1, -1);
        Check.due("a product below", t.table(0, 0, 2), -103);
        layAll(t, 0, 0, 1, 0, 0);
        Check.due("1 with 0", t.table(0, 0, 2), -102);
        t.sheet(0, 0, 9);
        layAll(t, 0, 0, 1, 2, 1, 7, 0, 1, 0, 1);
        Check.due("place by place", t.table(0, 0, 3), -104);
        Check.due("none of these is a group", t.count(0), 1);
    }

    private static void tableFull() {
        GroupTowers t = new GroupTowers();
        for (int g = 0; g < 8; g++) {
            t.cyclic(2);
        }
        Check.due("no order", t.table(0, 0, 0), GroupTowers.BAD);
        Check.due("a fault ahead of FULL", t.table(0, 0, 1), -11);
        t.sheet(0, 0, 4);
        Check.due("FULL ahead of what is not so", t.table(0, 0, 2), GroupTowers.FULL);
        Check.due("too few ahead of FULL", t.table(0, 0, 3), -12);
        Check.due("the last group as it was", t.product(7, 1, 1), 0);
    }

    private static void tableUnlike() {
        GroupTowers t = new GroupTowers();
        t.sheet(0, 0, 25);
        // A loop of 5 with 0 and inverses that is no group: (1 1) 2 is 2, 1 (1 2) is 4.
        layAll(t, 0, 0, 1, 2, 3, 4, 1, 0, 3, 4, 2, 2, 4, 0, 1, 3, 3, 2, 4, 0, 1, 4, 3, 1, 2, 0);
        Check.due("unlike", t.table(0, 0, 5), -1100 - (25 + 5 + 2));
        t.sheet(1, 1, 9);
        layAll(t, 1, 0, 1, 2, 1, 1, 0, 2, 0, 1);
        Check.due("unlike ahead of all else", t.table(1, 1, 3), -1114);
    }

    private static void tableWithoutInverse() {
        GroupTowers t = new GroupTowers();
        t.sheet(0, 0, 4);
        layAll(t, 0, 0, 1, 1, 1);
        Check.due("1 1 is 1", t.table(0, 0, 2), -3101);
        t.sheet(0, 0, 9);
        // 1 is its own inverse, 2 swallows.
        layAll(t, 0, 0, 1, 2, 1, 0, 2, 2, 2, 2);
        Check.due("2 swallows", t.table(0, 0, 3), -3102);
        Check.due("no group", t.count(0), 0);
        Check.due("nor is one begun", t.cyclic(2), 0);
        Check.due("1 1", t.product(0, 1, 1), 0);
    }

    private static void greatestTable() {
        GroupTowers t = new GroupTowers();
        t.dihedral(6);
        t.sheet(0, 0, 144);
        for (int x = 0; x < 12; x++) {
            for (int y = 0; y < 12; y++) {
                t.lay(0, 12 * x + y, t.product(0, x, y));
            }
        }
        Check.due("144 cells", t.table(0, 0, 12), 1);
        Check.due("as it was", t.same(0, 1, 1000), 1);
        t.lay(0, 143, 12);
        Check.due("the last product above", t.table(0, 0, 12), -243);
    }
}
