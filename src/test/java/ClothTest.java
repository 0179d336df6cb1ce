/** Promises 13 to 21: the cloth. */
public final class ClothTest {
    private static final Due DUE = new Due("ClothTest");

    public static void main(String[] args) {
        cloths();
        clothsRefused();
        brokenTiles();
        sets();
        tiles();
        moves();
        swaps();
        smooths();
        smoothsRefused();
        costs();
        wires();
        wiresRefused();
        DUE.end();
    }

    /** Two INPUTS and a GATE of both: 0 and 1 are LETTERS of TABLE 2. */
    private static ClothMaker pair() {
        ClothMaker x = new ClothMaker();
        x.input();
        x.input();
        x.gate(0, 0, 2);
        x.out(2);
        x.tables();
        return x;
    }

    private static void cloths() {
        ClothMaker x = new ClothMaker();
        DUE.same("13: the least", x.cloth(1, 1, 1, 1), 0);
        DUE.same("13: the greatest", x.cloth(6, 6, 4, 4), 60);
        DUE.same("13: a line", x.cloth(6, 1, 1, 1), 5);
        DUE.same("13: a column", x.cloth(1, 6, 1, 1), 5);
        DUE.same("13: the column goes down", x.side(4, 1), 5);
        x.broken(1, true);
        DUE.same("13: 2 by 3", x.cloth(2, 3, 1, 1), 7);
        DUE.same("13: none is BROKEN", x.broken(1, false), 0);
        int[][] sides = {{0, 1}, {2, 3}, {4, 5}, {0, 2}, {1, 3}, {2, 4}, {3, 5}};
        for (int j = 0; j < 7; j++) {
            DUE.same("13: JOINT " + j + " from", x.side(j, 0), sides[j][0]);
            DUE.same("13: JOINT " + j + " to", x.side(j, 1), sides[j][1]);
        }
    }

    private static void clothsRefused() {
        ClothMaker x = pair();
        x.set();
        int[][] wrong = {{0, 1, 1, 1}, {7, 1, 1, 1}, {1, 0, 1, 1}, {1, 7, 1, 1}, {1, 1, 0, 1},
            {1, 1, 5, 1}, {1, 1, 1, 0}, {1, 1, 1, 5}, {-1, -1, 1, 1}, {1, 1, 1, Integer.MAX_VALUE}};
        for (int[] w : wrong) {
            DUE.same("13: not so", x.cloth(w[0], w[1], w[2], w[3]), ClothMaker.NO);
        }
        DUE.same("13: it is as it was", x.tile(2), 1);
        DUE.same("13: NO is counted", x.status(ClothMaker.NO), wrong.length);
    }

    private static void brokenTiles() {
        ClothMaker x = pair();
        DUE.same("14: it was not", x.broken(0, true), 0);
        DUE.same("14: it was", x.broken(0, true), 1);
        DUE.same("14: set beside it", x.set(), 3);
        DUE.same("14: no THING goes there", x.tile(0), 1);
        DUE.same("14: nor can one be moved there", x.move(0, 0), ClothMaker.FULL);
        DUE.same("14: it was, no more", x.broken(0, false), 1);
        DUE.same("14: not any more", x.broken(0, false), 0);
        DUE.same("14: the last TILE", x.broken(8, true), 0);
        DUE.same("14: beyond", x.broken(9, true), ClothMaker.BEYOND);
        DUE.same("14: below", x.broken(-1, true), ClothMaker.BEYOND);
    }

    private static void sets() {
        ClothMaker x = new ClothMaker();
        DUE.same("15: no TABLES, ahead of FULL", x.set(), ClothMaker.MISSING);
        x = pair();
        x.cloth(2, 1, 1, 1);
        DUE.same("15: not ROOM for all", x.set(), ClothMaker.FULL);
        DUE.same("15: nothing is SET then", x.tile(0), ClothMaker.MISSING);
        x.cloth(3, 1, 1, 1);
        DUE.same("15: just ROOM for all", x.set(), 3);
        x.broken(1, true);
        DUE.same("15: a BROKEN TILE has none", x.set(), ClothMaker.FULL);
        x.cloth(1, 1, 3, 1);
        DUE.same("15: all in one TILE", x.set(), 3);
        x.cloth(2, 2, 2, 2);
        x.set();
        x.move(0, 3);
        DUE.same("15: anew", x.set(), 3);
        DUE.same("15: as at first", x.tile(0), 0);
        DUE.same("15: with ROOM as at first", x.move(2, 3), 1);
    }

    private static void tiles() {
        ClothMaker x = pair();
        x.gate(1, 0, 2);
        x.tables();
        DUE.same("16: nothing is SET", x.tile(0), ClothMaker.MISSING);
        DUE.same("16: BEYOND ahead of that", x.tile(4), ClothMaker.BEYOND);
        x.set();
        DUE.same("16: its TILE", x.tile(2), 1);
        DUE.same("16: a GATE that is no TABLE", x.tile(3), ClothMaker.MISSING);
        DUE.same("16: below", x.tile(-1), ClothMaker.BEYOND);
    }

    private static void moves() {
        ClothMaker x = pair();
        x.gate(1, 0, 2);
        x.tables();
        DUE.same("17: BEYOND ahead of MISSING", x.move(0, 9), ClothMaker.BEYOND);
        DUE.same("17: nothing is SET", x.move(0, 8), ClothMaker.MISSING);
        x.set();
        DUE.same("17: CELL beyond", x.move(4, 0), ClothMaker.BEYOND);
        DUE.same("17: CELL below", x.move(-1, 0), ClothMaker.BEYOND);
        DUE.same("17: TILE below", x.move(0, -1), ClothMaker.BEYOND);
        DUE.same("17: no THING, ahead of FULL", x.move(3, 0), ClothMaker.MISSING);
        DUE.same("17: no ROOM", x.move(2, 0), ClothMaker.FULL);
        DUE.same("17: its own, though it is full", x.move(0, 0), 0);
        DUE.same("17: the TILE before", x.move(0, 8), 0);
        DUE.same("17: there it is", x.tile(0), 8);
        DUE.same("17: its ROOM is free", x.move(2, 0), 1);
        DUE.same("17: there too", x.tile(2), 0);
        DUE.same("17: and full again", x.move(0, 0), ClothMaker.FULL);
    }

    private static void swaps() {
        ClothMaker x = pair();
        x.gate(1, 0, 2);
        x.tables();
        DUE.same("18: nothing is SET", x.swap(0, 1), ClothMaker.MISSING);
        DUE.same("18: the other is below all, nothing is SET", x.swap(0, -1), ClothMaker.BEYOND);
        DUE.same("18: the other is above all, nothing is SET", x.swap(0, 4), ClothMaker.BEYOND);
        DUE.same("18: the first is above all, nothing is SET", x.swap(4, 0), ClothMaker.BEYOND);
        x.cloth(3, 1, 1, 2);
        x.set();
        DUE.same("18: the first is beyond", x.swap(4, 3), ClothMaker.BEYOND);
        DUE.same("18: BEYOND comes ahead of MISSING", x.swap(3, 4), ClothMaker.BEYOND);
        DUE.same("18: the first is missing", x.swap(3, 0), ClothMaker.MISSING);
        DUE.same("18: the other is beyond", x.swap(0, -1), ClothMaker.BEYOND);
        DUE.same("18: the other is missing", x.swap(0, 3), ClothMaker.MISSING);
        DUE.same("20: COST before", x.cost(), 3);
        DUE.same("18: COST", x.swap(1, 2), 2);
        DUE.same("18: the one", x.tile(1), 2);
        DUE.same("18: the other", x.tile(2), 1);
        DUE.same("18: with itself", x.swap(1, 1), 2);
        DUE.same("18: in full TILES", x.tile(1), 2);
    }

    /** INPUT 0 feeds TABLE 2, INPUT 1 nothing; three TILES in a line, one THING in each. */
    private static ClothMaker line() {
        ClothMaker x = new ClothMaker();
        x.input();
        x.input();
        x.gate(0, 0, 0);
        x.out(2);
        x.tables();
        x.cloth(3, 1, 1, 1);
        x.set();
        return x;
    }

    private static void smooths() {
        ClothMaker x = line();
        DUE.same("19: no tries", x.smooth(0, 0L), 0);
        // THINGS 2 and 0, 1 and 1, 2 and 2: COST stays 2.
        DUE.same("19: COST is not more", x.smooth(3, 0L), 3);
        DUE.same("19: so they changed", x.tile(0), 2);
        DUE.same("19: both", x.tile(2), 0);
        x = line();
        // THINGS 1 and 2, 1 and 1, 1 and 2: the last would make COST 2 again.
        DUE.same("19: COST would be more", x.smooth(3, 5L), 2);
        DUE.same("19: so it did not", x.tile(2), 1);
        DUE.same("19: COST", x.cost(), 1);
        x = line();
        // THINGS 1 and 2, 1 and 2, 0 and 2.
        DUE.same("19: a SEED below 0", x.smooth(3, -1L), 2);
        DUE.same("19: CELL 0", x.tile(0), 1);
        DUE.same("19: CELL 1", x.tile(1), 2);
        DUE.same("19: CELL 2", x.tile(2), 0);
        x.cloth(1, 1, 3, 1);
        x.set();
        DUE.same("19: the most tries", x.smooth(1000, 77L), 1000);
    }

    private static void smoothsRefused() {
        ClothMaker x = pair();
        DUE.same("19: below", x.smooth(-1, 0L), ClothMaker.BELOW);
        DUE.same("19: above", x.smooth(1001, 0L), ClothMaker.NO);
        DUE.same("19: nothing is SET", x.smooth(1, 0L), ClothMaker.MISSING);
        x = new ClothMaker();
        x.tables();
        x.set();
        DUE.same("19: no THINGS", x.smooth(10, 1L), 0);
    }

    private static void costs() {
        ClothMaker x = pair();
        DUE.same("20: nothing is SET", x.cost(), ClothMaker.MISSING);
        x.keeper(false);
        x.source(3, 0);
        x.tables();
        x.cloth(3, 3, 2, 2);
        x.set();
        DUE.same("20: two WIRES beside one another", x.cost(), 2);
        x.move(2, 8);
        DUE.same("20: of 0 to 2 and 3, of 1 to 2", x.cost(), 8);
        x.move(3, 6);
        DUE.same("20: within the same bounds", x.cost(), 8);
        x.move(0, 4);
        DUE.same("20: of 0 from the middle", x.cost(), 3 + 4);
        x.source(3, 3);
        x.tables();
        x.set();
        x.move(3, 8);
        DUE.same("20: its own SOURCE has no WIRE", x.cost(), 2);
    }

    private static void wires() {
        ClothMaker x = pair();
        x.gate(1, 0, 2);
        x.gate(2, 0, 2);
        x.out(3);
        x.keeper(true);
        x.source(5, 2);
        x.tables();
        x.cloth(3, 1, 2, 2);
        x.set();
        DUE.same("21: TABLES 2, 3 and KEEPER 5", x.wires(0, 0), 3);
        DUE.same("21: both letters are in one TILE", x.wires(0, 1), 1);
        DUE.same("21: of a SOURCE", x.wires(2, 1), 1);
        DUE.same("21: 3 has none", x.wires(3, 1), 0);
        DUE.same("21: what = 0 looks at no CELL", x.wires(-5, 0), 3);
        x.move(2, 2);
        DUE.same("21: now two ENDS", x.wires(0, 1), 2);
        DUE.same("21: 2 is with 5", x.wires(2, 1), 0);
        DUE.same("21: two WIRES", x.wires(99, 0), 2);
    }

    private static void wiresRefused() {
        ClothMaker x = pair();
        x.gate(1, 0, 2);
        x.tables();
        DUE.same("21: CELL beyond", x.wires(4, 1), ClothMaker.BEYOND);
        DUE.same("21: nothing is SET", x.wires(0, 0), ClothMaker.MISSING);
        DUE.same("21: nothing is SET, of 1", x.wires(0, 1), ClothMaker.MISSING);
        DUE.same("21: MISSING ahead of NO", x.wires(0, 2), ClothMaker.MISSING);
        x.set();
        DUE.same("21: no THING", x.wires(3, 1), ClothMaker.MISSING);
        DUE.same("21: CELL below", x.wires(-1, 1), ClothMaker.BEYOND);
        DUE.same("21: not so, CELL beyond or not", x.wires(99, 2), ClothMaker.NO);
        DUE.same("21: below", x.wires(0, -1), ClothMaker.NO);
    }
}
