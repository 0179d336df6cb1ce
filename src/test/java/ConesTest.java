/** Promises 8 to 12: cones. */
public final class ConesTest {
    private static final Due DUE = new Due("ConesTest");

    public static void main(String[] args) {
        cutsInOrder();
        cutsRefused();
        depths();
        fortyAtMost();
        leastNumberFirst();
        tablesFound();
        tablesRefused();
        constantTable();
        DUE.end();
    }

    /** GATE 6 is (0 AND 1) UNLIKE denied (2 OR 3). */
    private static ClothMaker twoLevels() {
        ClothMaker x = new ClothMaker();
        for (int k = 0; k < 4; k++) {
            x.input();
        }
        x.gate(0, 0, 2);
        x.gate(1, 4, 6);
        x.gate(2, 8, 11);
        return x;
    }

    private static void cutsInOrder() {
        ClothMaker x = twoLevels();
        DUE.same("8: cuts(4)", x.cuts(4), 1);
        DUE.same("8: cuts(6)", x.cuts(6), 4);
        DUE.same("9: less DEPTH first", x.cut(6, 0), 0b0001111);
        DUE.same("9: then fewer CELLS", x.cut(6, 1), 0b0110000);
        DUE.same("9: then the least number", x.cut(6, 2), 0b0011100);
        DUE.same("9: and the other", x.cut(6, 3), 0b0100011);
        x.gate(0, 12, 13);
        DUE.same("8: the same CELL twice", x.cuts(7), 10);
        DUE.same("9: the four letters again", x.cut(7, 0), 0b0001111);
        DUE.same("9: the CELL alone", x.cut(7, 1), 0b1000000);
    }

    private static void cutsRefused() {
        ClothMaker x = twoLevels();
        DUE.same("8: below", x.cuts(-1), ClothMaker.BEYOND);
        DUE.same("8: beyond", x.cuts(7), ClothMaker.BEYOND);
        DUE.same("8: no GATE", x.cuts(3), ClothMaker.KIND);
        DUE.same("9: CELL beyond", x.cut(7, 0), 0);
        DUE.same("9: CELL below", x.cut(-1, 0), 0);
        DUE.same("9: no GATE, i beyond too", x.cut(0, 9), 0);
        DUE.same("9: i beyond", x.cut(6, 4), 0);
        DUE.same("9: i below", x.cut(6, -1), 0);
        DUE.same("39: BEYOND of cuts() and cut()", x.status(ClothMaker.BEYOND), 6);
        DUE.same("39: KIND of cuts() and cut()", x.status(ClothMaker.KIND), 2);
    }

    private static void depths() {
        ClothMaker x = twoLevels();
        x.keeper(true);
        x.gate(0, 12, 14);
        DUE.same("10: INPUT", x.depth(0), 0);
        DUE.same("10: KEEPER", x.depth(7), 0);
        DUE.same("10: GATE", x.depth(6), 1);
        DUE.same("10: five letters are too many", x.depth(8), 2);
        DUE.same("9: of DEPTH 2 the fewest CELLS", x.cut(8, 0), 1 << 6 | 1 << 7);
        DUE.same("10: below", x.depth(-1), ClothMaker.BEYOND);
        DUE.same("10: beyond", x.depth(9), ClothMaker.BEYOND);
    }

    /** A net that has far more CUTS than a GATE keeps. */
    private static void fortyAtMost() {
        ClothMaker x = new ClothMaker();
        for (int k = 0; k < 6; k++) {
            x.input();
        }
        for (int c = 6; c < 31; c++) {
            x.gate(c % 3, 2 * (c - 1), 2 * (c - 1 - c % 5));
        }
        int gate = 30;
        DUE.same("8: at most 40", x.cuts(gate), 40);
        long before = 0;
        for (int i = 0; i < 40; i++) {
            long rank = rank(x, x.cut(gate, i));
            DUE.holds("9: CUT " + i + " comes behind the one before", rank > before);
            before = rank;
        }
        DUE.same("9: no CUT 40", x.cut(gate, 40), 0);
        DUE.same("9: and it is told of", x.status(ClothMaker.BEYOND), 1);
        DUE.same("10: DEPTH of the first", x.depth(gate), rank(x, x.cut(gate, 0)) >> 40);
    }

    private static long rank(ClothMaker x, int cut) {
        long depth = 0;
        for (int c = 0; c < 31; c++) {
            if ((cut >> c & 1) == 1) {
                depth = Math.max(depth, x.depth(c) + 1);
            }
        }
        return depth << 40 | (long) Integer.bitCount(cut) << 32 | cut;
    }

    private static void leastNumberFirst() {
        ClothMaker x = new ClothMaker();
        x.input();
        x.input();
        x.gate(0, 0, 0);
        x.gate(0, 2, 2);
        x.gate(1, 6, 4);
        DUE.same("8: both ways round", x.cuts(4), 4);
        DUE.same("9: of DEPTH 1", x.cut(4, 0), 0b0011);
        DUE.same("9: the least", x.cut(4, 1), 0b0110);
        DUE.same("9: the next", x.cut(4, 2), 0b1001);
        DUE.same("9: the last", x.cut(4, 3), 0b1100);
    }

    private static void tablesFound() {
        ClothMaker x = twoLevels();
        DUE.same("11: nothing is WANTED", x.tables(), 0);
        x.keeper(false);
        x.out(0);
        DUE.same("11: an INPUT is no TABLE", x.tables(), 0);
        x.gate(0, 12, 15);
        x.source(7, 8);
        DUE.same("11: a SOURCE, and its CONE's GATE", x.tables(), 2);
        DUE.same("12: LETTERS of 8", x.table(8, 0), 2);
        DUE.same("12: BITS of 8", x.table(8, 1), 0x2222);
        DUE.same("12: LETTER 0", x.table(8, 2), 6);
        DUE.same("12: LETTER 1", x.table(8, 3), 7);
        DUE.same("12: no LETTER 2", x.table(8, 4), ClothMaker.NONE);
        DUE.same("12: no LETTER 3", x.table(8, 5), ClothMaker.NONE);
        DUE.same("12: LETTERS of 6", x.table(6, 0), 4);
        DUE.same("12: BITS of 6", x.table(6, 1), 0x8887);
        DUE.same("12: its last LETTER", x.table(6, 5), 3);
        DUE.same("12: 4 is inside the CONE of 6", x.table(4, 0), ClothMaker.MISSING);
        x.out(4);
        DUE.same("11: the same OUT twice counts once", x.out(4), 3);
        DUE.same("11: an OUT is WANTED", x.tables(), 3);
        DUE.same("12: so 4 is a TABLE", x.table(4, 1), 0x8888);
    }

    private static void tablesRefused() {
        ClothMaker x = twoLevels();
        x.out(6);
        DUE.same("12: beyond", x.table(7, 9), ClothMaker.BEYOND);
        DUE.same("12: below", x.table(-1, 9), ClothMaker.BEYOND);
        DUE.same("12: no GATE", x.table(0, 9), ClothMaker.KIND);
        DUE.same("12: not found yet", x.table(6, 9), ClothMaker.MISSING);
        x.tables();
        DUE.same("12: no TABLE", x.table(5, 9), ClothMaker.MISSING);
        DUE.same("12: what beyond", x.table(6, 6), ClothMaker.NO);
        DUE.same("12: what below", x.table(6, -1), ClothMaker.NO);
    }

    private static void constantTable() {
        ClothMaker x = new ClothMaker();
        x.input();
        x.gate(2, 0, 0);
        x.out(1);
        x.tables();
        DUE.same("12: one LETTER", x.table(1, 0), 1);
        DUE.same("12: never 1", x.table(1, 1), 0);
    }
}
