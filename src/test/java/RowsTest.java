/** Promises 35 to 39: rows. */
public final class RowsTest {
    private static final Due DUE = new Due("RowsTest");

    public static void main(String[] args) {
        laysAndTears();
        rows();
        copies();
        copiesRefused();
        rowStands();
        longestRow();
        statuses();
        everyRefusalCounts();
        DUE.end();
    }

    /** KEEPER 0 and INPUT 1 in TILE 0: 0 1 1 0 1 0 0 and the SUM 252; TILE 1 is empty. */
    private static ClothMaker two() {
        ClothMaker x = new ClothMaker();
        x.keeper(true);
        x.input();
        x.tables();
        x.cloth(2, 1, 2, 1);
        x.set();
        return x;
    }

    private static void rowIs(String what, ClothMaker x, int... numbers) {
        for (int i = 0; i < numbers.length; i++) {
            DUE.same(what + ", number " + i, x.row(i), numbers[i]);
        }
        DUE.same(what + ", no more", x.row(numbers.length), ClothMaker.BEYOND);
    }

    private static void laysAndTears() {
        ClothMaker x = two();
        DUE.same("36: at first it is missing", x.tear(), 0);
        DUE.same("35: TILE below", x.lay(-1), ClothMaker.BEYOND);
        DUE.same("35: TILE beyond, ahead of MISSING", x.lay(2), ClothMaker.BEYOND);
        DUE.same("35: not written", x.lay(0), ClothMaker.MISSING);
        DUE.same("36: it is still missing", x.tear(), 0);
        x.frames();
        DUE.same("35: how many", x.lay(0), 8);
        rowIs("35", x, 0, 1, 1, 0, 1, 0, 0, 252);
        DUE.same("35: an empty TILE", x.lay(1), 1);
        rowIs("35", x, 255);
        DUE.same("35: refused", x.lay(2), ClothMaker.BEYOND);
        DUE.same("35: it is as it was", x.row(0), 255);
        DUE.same("36: it was there", x.tear(), 1);
        DUE.same("36: it is not", x.tear(), 0);
        DUE.same("37: it is missing", x.row(0), ClothMaker.MISSING);
    }

    private static void rows() {
        ClothMaker x = two();
        DUE.same("37: MISSING ahead of BEYOND", x.row(-1), ClothMaker.MISSING);
        x.frames();
        x.lay(0);
        DUE.same("37: below", x.row(-1), ClothMaker.BEYOND);
        DUE.same("37: beyond", x.row(8), ClothMaker.BEYOND);
        DUE.same("37: far beyond", x.row(Integer.MAX_VALUE), ClothMaker.BEYOND);
        DUE.same("37: the last", x.row(7), 252);
    }

    private static void copies() {
        ClothMaker x = two();
        x.frames();
        x.lay(0);
        DUE.same("38: to above", x.copy(3, 5, 3), 3);
        rowIs("38: as they were", x, 0, 1, 1, 0, 1, 0, 1, 0);
        x.lay(0);
        DUE.same("38: over itself, to above", x.copy(0, 2, 6), 6);
        rowIs("38: as they were", x, 0, 1, 0, 1, 1, 0, 1, 0);
        x.lay(0);
        DUE.same("38: over itself, to below", x.copy(2, 0, 6), 6);
        rowIs("38: as they were", x, 1, 0, 1, 0, 0, 252, 0, 252);
        DUE.same("38: none, at the end", x.copy(8, 8, 0), 0);
        DUE.same("38: all onto itself", x.copy(0, 0, 8), 8);
        DUE.same("28: FRAMES are as they were", x.octet(0, 1), 1);
        DUE.same("30: their SUMS too", x.check(), ClothMaker.NONE);
    }

    private static void copiesRefused() {
        ClothMaker x = two();
        DUE.same("38: missing, ahead of BELOW", x.copy(0, 0, -1), ClothMaker.MISSING);
        x.frames();
        x.lay(0);
        DUE.same("38: n below, ahead of COPY", x.copy(-1, -1, -1), ClothMaker.BELOW);
        DUE.same("38: i below", x.copy(-1, 0, 0), ClothMaker.COPY);
        DUE.same("38: j below", x.copy(0, -1, 0), ClothMaker.COPY);
        DUE.same("38: i + n above", x.copy(6, 0, 3), ClothMaker.COPY);
        DUE.same("38: j + n above", x.copy(0, 6, 3), ClothMaker.COPY);
        DUE.same("38: i above", x.copy(9, 0, 0), ClothMaker.COPY);
        int most = Integer.MAX_VALUE;
        DUE.same("38: sums that would wrap", x.copy(most, 1, most), ClothMaker.COPY);
        DUE.same("38: sums that would wrap", x.copy(1, most, most), ClothMaker.COPY);
        DUE.same("38: n far above", x.copy(0, 0, most), ClothMaker.COPY);
        DUE.same("38: n the least number", x.copy(0, 0, Integer.MIN_VALUE), ClothMaker.BELOW);
        rowIs("38: nothing changed", x, 0, 1, 1, 0, 1, 0, 0, 252);
        DUE.same("39: COPY is counted", x.status(ClothMaker.COPY), 8);
        DUE.same("39: BELOW is counted", x.status(ClothMaker.BELOW), 2);
    }

    private static void rowStands() {
        ClothMaker x = two();
        x.frames();
        x.lay(0);
        x.bend(0, 0, 9);
        DUE.same("35: THE ROW is a copy", x.row(0), 0);
        x.input();
        DUE.same("35: it stands when the net changes", x.row(7), 252);
        DUE.same("36: and then", x.tear(), 1);
    }

    private static void longestRow() {
        ClothMaker x = new ClothMaker();
        for (int k = 0; k < 4; k++) {
            x.input();
        }
        x.gate(0, 0, 2);
        x.gate(0, 4, 6);
        for (int k = 0; k < 4; k++) {
            x.gate(k % 3, 8, 10 + k % 2);
            x.out(6 + k);
        }
        x.cloth(2, 1, 4, 4);
        x.tables();
        x.set();
        DUE.same("27: four TABLES of four LETTERS", x.frames(), 12 + 36 + 2);
        DUE.same("35: in one TILE", x.lay(1), 37);
        DUE.same("38: all of it", x.copy(0, 1, 36), 36);
        DUE.same("37: the last", x.row(36), x.octet(1, 35));
    }

    private static void statuses() {
        ClothMaker x = new ClothMaker();
        for (int by = ClothMaker.FULL; by <= ClothMaker.MISSING; by++) {
            DUE.same("39: none yet of " + by, x.status(by), 0);
        }
        DUE.same("39: NONE is another number", x.status(ClothMaker.NONE), ClothMaker.NO);
        DUE.same("39: so is 0", x.status(0), ClothMaker.NO);
        DUE.same("39: so is -9", x.status(-9), ClothMaker.NO);
        DUE.same("39: so is the least", x.status(Integer.MIN_VALUE), ClothMaker.NO);
        DUE.same("39: so is the greatest", x.status(Integer.MAX_VALUE), ClothMaker.NO);
        DUE.same("39: these are counted", x.status(ClothMaker.NO), 5);
    }

    private static void everyRefusalCounts() {
        ClothMaker x = new ClothMaker();
        x.keeper(false);
        for (int k = 0; k < 7; k++) {
            x.input();
        }
        x.source(1, 0);
        x.cuts(0);
        x.cut(0, 0);
        x.tile(0);
        x.lead(-1);
        x.octet(9, 0);
        x.told(9);
        x.tables();
        x.set();
        x.frames();
        x.lay(0);
        x.copy(0, 0, 99);
        int[] due = {1, 1, 1, 3, 1, 1, 1};
        for (int k = 0; k < due.length; k++) {
            DUE.same("39: status(" + (-2 - k) + ")", x.status(-2 - k), due[k]);
        }
    }
}
