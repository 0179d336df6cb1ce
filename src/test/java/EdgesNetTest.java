/** Promises 1 to 7: the least, the greatest, nothing yet, and full. */
public final class EdgesNetTest {
    private static final Due DUE = new Due("EdgesNetTest");

    public static void main(String[] args) {
        nothingAtFirst();
        roomForTwoInNine();
        carriesTwo();
        lastCellIsInput();
        lastCellIsKeeper();
        lastCellIsGate();
        leastAndGreatestSigns();
        sameSignTwice();
        anySource();
        eightOuts();
        everyWhat();
        allThirtyTwo();
        DUE.end();
    }

    /** 1: "No CELLS; THE CLOTH has 3 by 3 TILES". */
    private static void nothingAtFirst() {
        ClothMaker x = new ClothMaker();
        DUE.same("1: no OUTS", x.clock(0), 0);
        DUE.same("1: it can't run", x.start(), 0);
        for (int t = 0; t < 9; t++) {
            DUE.same("1: TILE " + t + " is not BROKEN", x.broken(t, false), 0);
        }
        for (int j = 0; j < 12; j++) {
            DUE.same("1: no PAST", x.side(j, 2), 0);
        }
        int[] lessers = {0, 1, 3, 4, 6, 7, 0, 1, 2, 3, 4, 5};
        for (int j = 0; j < 12; j++) {
            DUE.same("1: JOINT " + j + " from", x.side(j, 0), lessers[j]);
            DUE.same("1: JOINT " + j + " to", x.side(j, 1), lessers[j] + (j < 6 ? 1 : 3));
        }
        DUE.same("1: no TABLES", x.tables(), 0);
        DUE.same("1: no THINGS", x.set(), 0);
        DUE.same("1: a SUM of each TILE", x.frames(), 9);
        x.input();
        DUE.same("1: the first OUT", x.out(0), 1);
    }

    /** 1: "with ROOM for 2": eighteen in all, and no more. */
    private static void roomForTwoInNine() {
        ClothMaker x = new ClothMaker();
        for (int k = 0; k < 6; k++) {
            x.input();
            x.keeper(false);
        }
        for (int k = 0; k < 6; k++) {
            x.gate(0, 4 * k, 4 * k);
            x.out(12 + k);
        }
        DUE.same("1: six TABLES", x.tables(), 6);
        DUE.same("1: ROOM for eighteen", x.set(), 18);
        DUE.same("1: the last TILE", x.tile(17), 8);
        DUE.same("1: it is full", x.move(0, 8), ClothMaker.FULL);
        x.gate(0, 0, 2);
        x.out(18);
        DUE.same("1: seven TABLES", x.tables(), 7);
        DUE.same("1: no ROOM for nineteen", x.set(), ClothMaker.FULL);
    }

    /** 1: "JOINTS carry 2": two WIRES are not too many in a line of TILES, three are. */
    private static void carriesTwo() {
        ClothMaker x = new ClothMaker();
        x.input();
        x.input();
        x.gate(0, 0, 2);
        x.out(2);
        x.tables();
        x.set();
        x.lead(1);
        DUE.same("1: two WIRES", x.joint(0), 2);
        DUE.same("1: none too many", x.side(0, 2), 0);
        x.keeper(false);
        x.source(3, 2);
        x.tables();
        x.set();
        x.swap(2, 3);
        x.move(3, 0);
        DUE.same("1: KEEPER 3 can't be there", x.tile(3), 1);
        x.move(0, 8);
        x.move(3, 0);
        x.move(0, 1);
        x.lead(1);
        DUE.same("1: of TABLE 2 and INPUT 1", x.wires(0, 0), 2);
        DUE.same("1: both go over it", x.joint(0), 2);
        DUE.same("1: and it carries them", x.side(0, 2), 0);
    }

    /** 2: "CELLS 0 .. 31", "INPUTS (6 at most)": the sixth INPUT is the last CELL. */
    private static void lastCellIsInput() {
        ClothMaker x = new ClothMaker();
        x.keeper(true);
        for (int c = 1; c < 26; c++) {
            x.gate(0, 0, 0);
        }
        for (int c = 26; c < 32; c++) {
            DUE.same("2: an INPUT", x.input(), c);
        }
        DUE.same("2: no more", x.input(), ClothMaker.FULL);
        DUE.same("2: CELL 31 is one", x.cell(31, 0), 0);
        x.out(31);
        x.out(26);
        DUE.same("33: its bit is 5", x.clock(32), 0b01);
        DUE.same("33: and that of 26 is 0", x.clock(1), 0b10);
    }

    /** 3: KEEPER 31, with either value at first, itself its SOURCE. */
    private static void lastCellIsKeeper() {
        for (int first = 0; first < 2; first++) {
            ClothMaker x = new ClothMaker();
            x.input();
            for (int c = 1; c < 31; c++) {
                x.gate(2, 2 * c - 2, 2 * c - 1);
            }
            DUE.same("3: the last CELL", x.keeper(first == 1), 31);
            DUE.same("3: no more", x.keeper(true), ClothMaker.FULL);
            DUE.same("3: itself", x.cell(31, 1), 31);
            x.out(31);
            DUE.same("3: its value at first", x.clock(0), first);
            DUE.same("3: it stays", x.clock(1), first);
            x.source(31, 0);
            x.clock(1 - first);
            DUE.same("5: it becomes INPUT 0", x.clock(0), 1 - first);
        }
    }

    /** 4: GATE 31 of the greatest SIGNS that there can be. */
    private static void lastCellIsGate() {
        ClothMaker x = new ClothMaker();
        x.input();
        for (int c = 1; c < 31; c++) {
            x.gate(0, 0, 2 * c - 2);
        }
        DUE.same("4: a SIGN of CELL 31, which is not yet", x.gate(0, 62, 0), ClothMaker.BEYOND);
        DUE.same("4: the greatest SIGNS", x.gate(2, 61, 60), 31);
        DUE.same("4: now there is CELL 31, but no room", x.gate(0, 62, 63), ClothMaker.FULL);
        DUE.same("7: SIGN x", x.cell(31, 1), 61);
        DUE.same("7: SIGN y", x.cell(31, 2), 60);
        x.out(31);
        DUE.same("4: it is always 1", x.clock(0), 1);
    }

    private static void leastAndGreatestSigns() {
        ClothMaker x = new ClothMaker();
        x.keeper(true);
        DUE.same("4: no CELL before it but 0", x.gate(1, 0, 2), ClothMaker.BEYOND);
        DUE.same("4: nor as x", x.gate(1, 3, 0), ClothMaker.BEYOND);
        DUE.same("4: the least kind, the least SIGN", x.gate(0, 0, 0), 1);
        DUE.same("4: the greatest kind, the greatest SIGNS", x.gate(2, 3, 3), 2);
        DUE.same("4: kind 1", x.gate(1, 5, 0), 3);
        DUE.same("4: no kind 3", x.gate(3, 0, 0), ClothMaker.NO);
        DUE.same("4: no kind -1", x.gate(-1, 0, 0), ClothMaker.NO);
    }

    /** 4: of the same SIGN, and of a SIGN and its denial. */
    private static void sameSignTwice() {
        ClothMaker x = new ClothMaker();
        x.input();
        for (int kind = 0; kind < 3; kind++) {
            x.gate(kind, 0, 0);
            x.gate(kind, 0, 1);
        }
        for (int c = 1; c < 7; c++) {
            x.out(c);
        }
        DUE.same("4: of 0", x.clock(0), 0b101000);
        DUE.same("4: of 1", x.clock(1), 0b101101);
    }

    /** 5: "a SOURCE, any CELL, itself at first". */
    private static void anySource() {
        ClothMaker x = new ClothMaker();
        for (int k = 0; k < 6; k++) {
            x.keeper(false);
        }
        x.input();
        for (int c = 7; c < 32; c++) {
            x.gate(0, 12, 12);
        }
        int before = 0;
        for (int c = 31; c >= 0; c--) {
            DUE.same("5: the one before", x.source(0, c), before);
            DUE.same("5: the same again", x.source(0, c), c);
            DUE.same("7: it is so", x.cell(0, 1), c);
            before = c;
        }
        for (int k = 1; k < 6; k++) {
            DUE.same("5: of the others nothing changed", x.cell(k, 1), k);
        }
        DUE.same("5: KEEPER 5", x.source(5, 31), 5);
        DUE.same("5: no KEEPER 6", x.source(6, 31), ClothMaker.KIND);
        DUE.same("5: no CELL 32", x.source(5, 32), ClothMaker.BEYOND);
    }

    /** 6: "OUTS: CELLS (8 at most; the same more than once, too)". */
    private static void eightOuts() {
        ClothMaker x = new ClothMaker();
        x.input();
        x.input();
        int[] outs = {0, 1, 1, 0, 0, 0, 0, 1};
        for (int k = 0; k < 8; k++) {
            DUE.same("6: how many", x.out(outs[k]), k + 1);
        }
        DUE.same("6: no ninth", x.out(0), ClothMaker.FULL);
        DUE.same("6: bit i is OUT i", x.clock(1), 0b01111001);
        DUE.same("6: the other", x.clock(2), 0b10000110);
        DUE.same("6: all", x.clock(3), 0b11111111);
        DUE.same("6: none", x.clock(0), 0);
    }

    /** 7: "NONE where it has none such" is no refusal. */
    private static void everyWhat() {
        ClothMaker x = new ClothMaker();
        x.input();
        x.keeper(false);
        x.gate(1, 1, 2);
        int[][] due = {{0, -1, -1, -1}, {1, 1, -1, -1}, {2, 1, 2, 1}};
        for (int c = 0; c < 3; c++) {
            for (int what = 0; what < 4; what++) {
                DUE.same("7: cell(" + c + ", " + what + ")", x.cell(c, what), due[c][what]);
            }
        }
        for (int by = ClothMaker.FULL; by <= ClothMaker.MISSING; by++) {
            DUE.same("7: nothing was refused", x.status(by), 0);
        }
    }

    /** All CELLS, INPUTS, KEEPERS, OUTS that there can be. */
    private static void allThirtyTwo() {
        ClothMaker x = new ClothMaker();
        Stage.crowd(x);
        for (int c = 0; c < 32; c++) {
            DUE.same("7: CELL " + c, x.cell(c, 0), c < 6 ? 0 : c < 12 ? 1 : 2);
        }
        DUE.same("2: INPUTS are full", x.input(), ClothMaker.FULL);
        DUE.same("3: KEEPERS are full", x.keeper(true), ClothMaker.FULL);
        DUE.same("4: CELLS are full", x.gate(0, 0, 0), ClothMaker.FULL);
        DUE.same("6: OUTS are full", x.out(0), ClothMaker.FULL);
        DUE.same("5: a SOURCE needs no room", x.source(6, 31), 12);
        DUE.same("39: four were FULL", x.status(ClothMaker.FULL), 4);
        DUE.same("7: no CELL 32", x.cell(32, 0), ClothMaker.BEYOND);
    }
}
