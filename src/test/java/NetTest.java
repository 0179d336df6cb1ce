/** Promises 1 to 7: a new object, and the net. */
public final class NetTest {
    private static final Due DUE = new Due("NetTest");

    public static void main(String[] args) {
        newObject();
        newClothCarriesTwo();
        inputs();
        keepers();
        gates();
        allCells();
        sources();
        outs();
        cells();
        DUE.end();
    }

    private static void newObject() {
        ClothMaker x = new ClothMaker();
        DUE.same("1: no CELLS", x.cell(0, 0), ClothMaker.BEYOND);
        DUE.same("1: JOINT 11 from", x.side(11, 0), 5);
        DUE.same("1: JOINT 11 to", x.side(11, 1), 8);
        DUE.same("1: no JOINT 12", x.side(12, 0), ClothMaker.BEYOND);
        DUE.same("1: TILE 8 is not BROKEN", x.broken(8, false), 0);
        DUE.same("1: no TILE 9", x.broken(9, false), ClothMaker.BEYOND);
        DUE.same("1: no CLOCK", x.told(2), 0);
        DUE.same("1: THE ROW is missing", x.tear(), 0);
        for (int k = 0; k < 5; k++) {
            x.input();
        }
        x.tables();
        DUE.same("1: all are set", x.set(), 5);
        DUE.same("1: two have ROOM", x.tile(1), 0);
        DUE.same("1: a third has not", x.tile(2), 1);
        DUE.same("1: nor a fifth", x.tile(4), 2);
    }

    private static void newClothCarriesTwo() {
        ClothMaker x = new ClothMaker();
        threeIntoOne(x);
        x.tables();
        x.set();
        x.move(2, 3);
        DUE.same("1: LED in one TURN", x.lead(1), 1);
        DUE.same("1: a JOINT carries two", x.joint(0), 2);
        DUE.same("1: the third goes by TILE 4", x.way(2, 0), 2);
        DUE.same("1: and from there above", x.way(2, 1), 7);
    }

    /** INPUTS 0, 1, 2 in GATE 4; it is set into TILE 1 with INPUT 2. */
    private static void threeIntoOne(ClothMaker x) {
        x.input();
        x.input();
        x.input();
        x.gate(0, 0, 2);
        x.gate(0, 6, 4);
        x.out(4);
    }

    private static void inputs() {
        ClothMaker x = new ClothMaker();
        for (int k = 0; k < 6; k++) {
            DUE.same("2: input()", x.input(), k);
        }
        DUE.same("2: a seventh", x.input(), ClothMaker.FULL);
        DUE.same("2: a KEEPER has room", x.keeper(true), 6);
        DUE.same("2: FULL is counted", x.status(ClothMaker.FULL), 1);
    }

    private static void keepers() {
        ClothMaker x = new ClothMaker();
        for (int k = 0; k < 6; k++) {
            DUE.same("3: keeper()", x.keeper(k % 2 == 1), k);
            DUE.same("3: its SOURCE is itself", x.cell(k, 1), k);
            DUE.same("3: an OUT", x.out(k), k + 1);
        }
        DUE.same("3: a seventh", x.keeper(false), ClothMaker.FULL);
        DUE.same("3: values at first", x.clock(0), 42);
        DUE.same("3: and they stay", x.clock(0), 42);
    }

    private static void gates() {
        ClothMaker x = new ClothMaker();
        DUE.same("4: kind ahead of SIGN", x.gate(3, 0, 0), ClothMaker.NO);
        DUE.same("4: kind below", x.gate(-1, 0, 0), ClothMaker.NO);
        DUE.same("4: no CELL", x.gate(0, 0, 0), ClothMaker.BEYOND);
        x.input();
        x.input();
        DUE.same("4: x below", x.gate(0, -1, 0), ClothMaker.BEYOND);
        DUE.same("4: y below", x.gate(0, 0, -1), ClothMaker.BEYOND);
        DUE.same("4: x beyond", x.gate(0, 4, 0), ClothMaker.BEYOND);
        DUE.same("4: y beyond", x.gate(0, 0, 4), ClothMaker.BEYOND);
        DUE.same("4: y far beyond", x.gate(0, 0, Integer.MAX_VALUE), ClothMaker.BEYOND);
        DUE.same("4: x far below", x.gate(0, Integer.MIN_VALUE, 0), ClothMaker.BEYOND);
        DUE.same("4: AND", x.gate(0, 0, 2), 2);
        DUE.same("4: OR", x.gate(1, 0, 2), 3);
        DUE.same("4: UNLIKE", x.gate(2, 0, 2), 4);
        DUE.same("4: AND of denials", x.gate(0, 1, 3), 5);
        DUE.same("4: OR of a denial", x.gate(1, 1, 2), 6);
        DUE.same("4: UNLIKE of a denial", x.gate(2, 0, 3), 7);
        for (int c = 2; c <= 7; c++) {
            x.out(c);
        }
        DUE.same("4: of 0, 0", x.clock(0), 0b111000);
        DUE.same("4: of 1, 0", x.clock(1), 0b000110);
        DUE.same("4: of 0, 1", x.clock(2), 0b010110);
        DUE.same("4: of 1, 1", x.clock(3), 0b110011);
    }

    private static void allCells() {
        ClothMaker x = new ClothMaker();
        x.input();
        for (int c = 1; c < 32; c++) {
            DUE.same("4: a CELL", x.gate(1, 2 * c - 2, 2 * c - 1), c);
        }
        DUE.same("2: no CELL is left", x.input(), ClothMaker.FULL);
        DUE.same("3: no CELL is left", x.keeper(true), ClothMaker.FULL);
        DUE.same("4: no CELL is left", x.gate(0, 63, 62), ClothMaker.FULL);
        DUE.same("4: BEYOND ahead of FULL", x.gate(0, 64, 0), ClothMaker.BEYOND);
        DUE.same("4: NO ahead of FULL", x.gate(9, 0, 0), ClothMaker.NO);
        DUE.same("6: CELL 31 is an OUT", x.out(31), 1);
        DUE.same("11: CELL 31 is a TABLE", x.tables(), 1);
        DUE.same("12: it is always 1", x.table(31, 1), 0xFFFF);
        DUE.same("33: it is always 1", x.clock(0), 1);
    }

    private static void sources() {
        ClothMaker x = new ClothMaker();
        x.keeper(false);
        x.input();
        DUE.same("5: the one before", x.source(0, 1), 0);
        DUE.same("5: and then", x.source(0, 0), 1);
        DUE.same("5: KEEPER below", x.source(-1, 0), ClothMaker.BEYOND);
        DUE.same("5: KEEPER beyond", x.source(2, 0), ClothMaker.BEYOND);
        DUE.same("5: CELL below", x.source(0, -1), ClothMaker.BEYOND);
        DUE.same("5: CELL beyond, ahead of KIND", x.source(1, 2), ClothMaker.BEYOND);
        DUE.same("5: no KEEPER", x.source(1, 0), ClothMaker.KIND);
        DUE.same("5: refused calls changed nothing", x.cell(0, 1), 0);
    }

    private static void outs() {
        ClothMaker x = new ClothMaker();
        DUE.same("6: no CELL", x.out(0), ClothMaker.BEYOND);
        x.input();
        for (int k = 1; k <= 8; k++) {
            DUE.same("6: the same once more", x.out(0), k);
        }
        DUE.same("6: a ninth", x.out(0), ClothMaker.FULL);
        DUE.same("6: BEYOND ahead of FULL", x.out(1), ClothMaker.BEYOND);
        DUE.same("6: below", x.out(-1), ClothMaker.BEYOND);
        DUE.same("6: eight OUTS", x.clock(1), 255);
    }

    private static void cells() {
        ClothMaker x = new ClothMaker();
        x.input();
        x.keeper(true);
        x.gate(2, 3, 0);
        x.source(1, 2);
        int[][] due = {{0, -1, -1, -1}, {1, 2, -1, -1}, {2, 3, 0, 2}};
        for (int c = 0; c < 3; c++) {
            for (int what = 0; what < 4; what++) {
                DUE.same("7: cell(" + c + ", " + what + ")", x.cell(c, what), due[c][what]);
            }
            DUE.same("7: what below", x.cell(c, -1), ClothMaker.NO);
            DUE.same("7: what beyond", x.cell(c, 4), ClothMaker.NO);
        }
        DUE.same("7: BEYOND ahead of NO", x.cell(3, 4), ClothMaker.BEYOND);
        DUE.same("7: below", x.cell(-1, 0), ClothMaker.BEYOND);
        DUE.same("7: NONE is no refusal", x.status(ClothMaker.NO), 6);
    }
}
