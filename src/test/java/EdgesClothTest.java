import java.math.BigInteger;

/** Promises 13 to 21: THE CLOTH at its least and greatest, empty and full, the SEED as bits. */
public final class EdgesClothTest {
    private static final Due DUE = new Due("EdgesClothTest");

    public static void main(String[] args) {
        eachBoundAlone();
        leastCloth();
        greatestCloth();
        roomIsAsTold();
        jointsCarryAsTold();
        brokenEachWay();
        allBroken();
        roomForAllThirtyTwo();
        setsNothing();
        leastTileWithRoom();
        movesToTheLastPlace();
        roomBehindSwapAndSmooth();
        swapsAtTheBounds();
        triesAtTheBounds();
        seedsAsBits();
        onlyThingsAreTried();
        triesAsSwapsTell();
        costAtTheBounds();
        endsAtTheBounds();
        tableNoMore();
        DUE.end();
    }

    private static ClothMaker inputs(int n) {
        ClothMaker x = new ClothMaker();
        for (int k = 0; k < n; k++) {
            x.input();
        }
        x.tables();
        return x;
    }

    /** 13: 1 .. 6 by 1 .. 6, ROOM 1 .. 4, carry 1 .. 4: all that is allowed, and how many JOINTS. */
    private static void eachBoundAlone() {
        ClothMaker x = new ClothMaker();
        for (int wide = 1; wide <= 6; wide++) {
            for (int high = 1; high <= 6; high++) {
                int due = (wide - 1) * high + wide * (high - 1);
                DUE.same("13: " + wide + " by " + high, x.cloth(wide, high, 1, 1), due);
            }
        }
        for (int n = 1; n <= 4; n++) {
            DUE.same("13: ROOM for " + n, x.cloth(2, 1, n, 1), 1);
            DUE.same("13: carry " + n, x.cloth(1, 2, 1, n), 1);
        }
        int[][] wrong = {{0, 6, 4, 4}, {7, 6, 4, 4}, {6, 0, 4, 4}, {6, 7, 4, 4}, {6, 6, 0, 4},
            {6, 6, 5, 4}, {6, 6, 4, 0}, {6, 6, 4, 5}};
        for (int[] w : wrong) {
            DUE.same("13: just outside", x.cloth(w[0], w[1], w[2], w[3]), ClothMaker.NO);
        }
        DUE.same("13: it is still 1 by 2", x.side(0, 1), 1);
        DUE.same("13: no other JOINT", x.side(1, 0), ClothMaker.BEYOND);
    }

    /** 13: one TILE has no JOINTS. */
    private static void leastCloth() {
        ClothMaker x = inputs(1);
        DUE.same("13: no JOINTS", x.cloth(1, 1, 1, 1), 0);
        DUE.same("25: no JOINT 0", x.side(0, 0), ClothMaker.BEYOND);
        DUE.same("23: no JOINT 0", x.joint(0), ClothMaker.BEYOND);
        DUE.same("14: TILE 0", x.broken(0, false), 0);
        DUE.same("14: no TILE 1", x.broken(1, false), ClothMaker.BEYOND);
        DUE.same("15: one THING", x.set(), 1);
        DUE.same("17: no TILE 1", x.move(0, 1), ClothMaker.BEYOND);
        DUE.same("22: LED", x.lead(1), 1);
        DUE.same("27: one FRAME", x.frames(), 4);
    }

    /** 13: 36 TILES and 60 JOINTS. */
    private static void greatestCloth() {
        ClothMaker x = inputs(1);
        DUE.same("13: 60", x.cloth(6, 6, 4, 4), 60);
        int[][] due = {{0, 0, 1}, {4, 4, 5}, {5, 6, 7}, {29, 34, 35}, {30, 0, 6}, {59, 29, 35}};
        for (int[] d : due) {
            DUE.same("25: JOINT " + d[0] + " from", x.side(d[0], 0), d[1]);
            DUE.same("25: JOINT " + d[0] + " to", x.side(d[0], 1), d[2]);
        }
        DUE.same("25: no JOINT 60", x.side(60, 0), ClothMaker.BEYOND);
        DUE.same("14: TILE 35", x.broken(35, true), 0);
        DUE.same("14: it was", x.broken(35, false), 1);
        DUE.same("14: TILE 3 was not", x.broken(3, false), 0);
        DUE.same("14: no TILE 36", x.broken(36, true), ClothMaker.BEYOND);
        x.set();
        DUE.same("17: to TILE 35", x.move(0, 35), 0);
        DUE.same("16: there it is", x.tile(0), 35);
        DUE.same("17: no TILE 36", x.move(0, 36), ClothMaker.BEYOND);
    }

    /** "a TILE has ROOM for 1 .. 4 THINGS". */
    private static void roomIsAsTold() {
        for (int room = 1; room <= 4; room++) {
            ClothMaker x = inputs(room);
            x.cloth(1, 1, room, 1);
            DUE.same("15: just so many", x.set(), room);
            x = inputs(room + 1);
            x.cloth(1, 1, room, 1);
            DUE.same("15: one too many", x.set(), ClothMaker.FULL);
            x.cloth(2, 1, room, 1);
            DUE.same("15: in two TILES", x.set(), room + 1);
            DUE.same("16: the last that has ROOM", x.tile(room - 1), 0);
            DUE.same("16: the next", x.tile(room), 1);
        }
    }

    /** "JOINTS carry 1 .. 4 WIRES each". */
    private static void jointsCarryAsTold() {
        for (int carry = 1; carry <= 4; carry++) {
            for (int wires = 1; wires <= 4; wires++) {
                ClothMaker x = inputs(4);
                int last = x.gate(0, 0, 0);
                for (int k = 1; k < wires; k++) {
                    last = x.gate(0, 2 * last, 2 * k);
                }
                x.out(last);
                x.tables();
                x.cloth(2, 1, 4, carry);
                x.set();
                DUE.same("21: WIRES", x.wires(0, 0), wires);
                int due = wires <= carry ? 1 : ClothMaker.NONE;
                DUE.same("22: " + wires + " over " + carry, x.lead(1), due);
                DUE.same("25: how many more", x.side(0, 2), Math.max(0, wires - carry));
                DUE.same("23: all of them", x.joint(0), wires);
            }
        }
    }

    /** 14: "A TILE is BROKEN, or not: whether it was". */
    private static void brokenEachWay() {
        ClothMaker x = new ClothMaker();
        boolean[] is = {true, true, false, false, true};
        int[] was = {0, 1, 1, 0, 0};
        for (int k = 0; k < 5; k++) {
            DUE.same("14: TILE 0", x.broken(0, is[k]), was[k]);
        }
        for (int k = 0; k < 5; k++) {
            DUE.same("14: TILE 8", x.broken(8, is[k]), was[k]);
        }
        DUE.same("14: TILE 1 never was", x.broken(1, false), 0);
        x.cloth(3, 3, 2, 2);
        for (int t = 0; t < 9; t++) {
            DUE.same("13: none is BROKEN", x.broken(t, false), 0);
        }
    }

    /** 14, 15: no ROOM at all. */
    private static void allBroken() {
        ClothMaker x = new ClothMaker();
        x.cloth(2, 1, 4, 1);
        x.broken(0, true);
        x.broken(1, true);
        x.tables();
        DUE.same("15: nothing needs no ROOM", x.set(), 0);
        DUE.same("27: FRAMES of BROKEN TILES", x.frames(), 2);
        x.input();
        x.tables();
        DUE.same("15: one THING does", x.set(), ClothMaker.FULL);
        x.broken(1, false);
        DUE.same("15: now it has", x.set(), 1);
        DUE.same("16: in TILE 1", x.tile(0), 1);
        DUE.same("17: TILE 0 has none", x.move(0, 0), ClothMaker.FULL);
        DUE.same("17: its own", x.move(0, 1), 1);
    }

    /** 15: 32 THINGS, with ROOM for just so many, and for one less. */
    private static void roomForAllThirtyTwo() {
        ClothMaker x = new ClothMaker();
        Stage.crowd(x);
        x.tables();
        x.cloth(4, 2, 4, 4);
        DUE.same("15: 8 times 4", x.set(), 32);
        DUE.same("16: the first", x.tile(3), 0);
        DUE.same("16: the last", x.tile(31), 7);
        x.cloth(6, 6, 1, 4);
        x.broken(0, true);
        x.broken(7, true);
        x.broken(34, true);
        x.broken(35, true);
        DUE.same("15: 36 less 4", x.set(), 32);
        DUE.same("16: the first", x.tile(0), 1);
        DUE.same("16: the last", x.tile(31), 33);
        DUE.same("17: all is full", x.move(31, 1), ClothMaker.FULL);
        DUE.same("17: or BROKEN", x.move(31, 35), ClothMaker.FULL);
        x.broken(33, true);
        DUE.same("15: 36 less 5", x.set(), ClothMaker.FULL);
        DUE.same("16: nothing is SET", x.tile(0), ClothMaker.MISSING);
        x.cloth(6, 5, 1, 4);
        DUE.same("15: 30", x.set(), ClothMaker.FULL);
    }

    private static void setsNothing() {
        ClothMaker x = new ClothMaker();
        DUE.same("15: TABLES were not found", x.set(), ClothMaker.MISSING);
        x.tables();
        DUE.same("15: no THINGS", x.set(), 0);
        DUE.same("20: no COST", x.cost(), 0);
        DUE.same("21: no WIRES", x.wires(0, 0), 0);
        DUE.same("19: no THINGS to try", x.smooth(1000, 3L), 0);
        DUE.same("22: LED", x.lead(1), 1);
        DUE.same("26: 0 without WIRES", x.longest(), 0);
    }

    /** "each goes to the least TILE that has ROOM left": over BROKEN ones, TILE by TILE. */
    private static void leastTileWithRoom() {
        ClothMaker x = inputs(5);
        x.cloth(2, 2, 2, 1);
        x.broken(1, true);
        DUE.same("15: five", x.set(), 5);
        int[] due = {0, 0, 2, 2, 3};
        for (int c = 0; c < 5; c++) {
            DUE.same("16: INPUT " + c, x.tile(c), due[c]);
        }
    }

    /** 17: "to another TILE with ROOM left": the last place, and none. */
    private static void movesToTheLastPlace() {
        ClothMaker x = inputs(6);
        x.cloth(3, 1, 3, 1);
        x.set();
        DUE.same("17: the first place of three", x.move(0, 2), 0);
        DUE.same("17: the second", x.move(1, 2), 0);
        DUE.same("17: the last", x.move(3, 2), 1);
        DUE.same("17: no place is left", x.move(4, 2), ClothMaker.FULL);
        DUE.same("17: its own needs none", x.move(3, 2), 2);
        DUE.same("17: one goes", x.move(0, 0), 2);
        DUE.same("17: so one may come", x.move(4, 2), 1);
        DUE.same("17: and no other", x.move(5, 2), ClothMaker.FULL);
        DUE.same("16: it stayed", x.tile(5), 1);
    }

    private static void roomBehindSwapAndSmooth() {
        ClothMaker x = inputs(3);
        x.cloth(2, 1, 2, 1);
        x.set();
        x.swap(0, 2);
        DUE.same("16: 2 is in TILE 0 now", x.tile(2), 0);
        DUE.same("17: TILE 0 is full still", x.move(0, 0), ClothMaker.FULL);
        DUE.same("17: TILE 1 is not", x.move(1, 1), 0);
        DUE.same("17: now it is", x.move(2, 1), ClothMaker.FULL);
        x.smooth(99, 4L);
        int full = x.tile(0) + x.tile(1) + x.tile(2);
        DUE.same("19: two are in TILE 1 still", full, 2);
        int alone = x.tile(0) == 0 ? 0 : x.tile(1) == 0 ? 1 : 2;
        DUE.same("17: it is full still", x.move(alone, 1), ClothMaker.FULL);
    }

    /** 18: with itself, in one TILE, the first and the last CELL. */
    private static void swapsAtTheBounds() {
        ClothMaker x = new ClothMaker();
        Stage.crowd(x);
        x.tables();
        x.cloth(6, 6, 1, 4);
        x.set();
        int before = x.cost();
        DUE.same("18: with itself", x.swap(31, 31), before);
        DUE.same("16: it stays", x.tile(31), 31);
        int cost = x.swap(0, 31);
        DUE.same("18: COST is as cost() tells", x.cost(), cost);
        DUE.same("16: 0 is there", x.tile(0), 31);
        DUE.same("16: 31 is here", x.tile(31), 0);
        DUE.same("18: and back", x.swap(31, 0), before);
        DUE.same("18: no CELL 32", x.swap(0, 32), ClothMaker.BEYOND);
        x = inputs(2);
        x.set();
        DUE.same("18: in one TILE", x.swap(0, 1), 0);
        DUE.same("16: both stay", x.tile(0) + x.tile(1), 0);
    }

    /** 19: "n tries (0 .. 1000)"; one THING alone changes TILES with itself. */
    private static void triesAtTheBounds() {
        ClothMaker x = inputs(1);
        x.set();
        DUE.same("19: no try", x.smooth(0, 9L), 0);
        DUE.same("19: one", x.smooth(1, 9L), 1);
        DUE.same("19: the most", x.smooth(1000, 9L), 1000);
        DUE.same("19: one more", x.smooth(1001, 9L), ClothMaker.NO);
        DUE.same("19: one less than none", x.smooth(-1, 9L), ClothMaker.BELOW);
        DUE.same("16: it is where it was", x.tile(0), 0);
    }

    /**
     * 19: the SEED is taken as 64 bits, its highest 31 as a number that is never below 0. Without
     * WIRES each try is done, so TILES tell which THINGS came.
     */
    private static void seedsAsBits() {
        long[] seeds = {0L, 1L, -1L, Long.MAX_VALUE, Long.MIN_VALUE, 1L << 62, 4611686018427387905L,
            -6364136223846793005L, 123456789L};
        for (long seed : seeds) {
            for (int things = 1; things <= 6; things++) {
                for (int tries = 0; tries <= 5; tries++) {
                    ClothMaker x = inputs(things);
                    x.cloth(6, 1, 1, 1);
                    x.set();
                    String what = "19: smooth(" + tries + ", " + seed + ")";
                    DUE.same(what, x.smooth(tries, seed), tries);
                    int[] due = changed(things, tries, seed);
                    for (int c = 0; c < things; c++) {
                        DUE.same(what + " of " + things + ", INPUT " + c, x.tile(c), due[c]);
                    }
                }
            }
        }
    }

    private static int[] changed(int things, int tries, long seed) {
        BigInteger round = BigInteger.ONE.shiftLeft(64);
        BigInteger state = BigInteger.valueOf(seed).mod(round);
        int[] tiles = new int[things];
        for (int c = 0; c < things; c++) {
            tiles[c] = c;
        }
        for (int k = 0; k < tries; k++) {
            int[] two = new int[2];
            for (int i = 0; i < 2; i++) {
                state = state.multiply(new BigInteger("6364136223846793005"))
                    .add(new BigInteger("1442695040888963407")).mod(round);
                two[i] = state.shiftRight(33).mod(BigInteger.valueOf(things)).intValue();
            }
            int tile = tiles[two[0]];
            tiles[two[0]] = tiles[two[1]];
            tiles[two[1]] = tile;
        }
        return tiles;
    }

    /** 19: "modulo how many THINGS": a GATE that is no TABLE is not counted. */
    private static void onlyThingsAreTried() {
        ClothMaker x = new ClothMaker();
        x.input();
        x.gate(0, 0, 0);
        x.input();
        x.gate(0, 0, 4);
        x.keeper(true);
        x.tables();
        x.cloth(3, 1, 1, 1);
        DUE.same("15: 0, 2 and 4", x.set(), 3);
        DUE.same("19: all tries", x.smooth(7, 5L), 7);
        int[] due = changed(3, 7, 5L);
        DUE.same("19: CELL 0", x.tile(0), due[0]);
        DUE.same("19: CELL 2", x.tile(2), due[1]);
        DUE.same("19: CELL 4", x.tile(4), due[2]);
        DUE.same("16: GATE 1", x.tile(1), ClothMaker.MISSING);
    }

    /** 19: "they change TILES, if COST is not more then": the same tries, made by swap(). */
    private static void triesAsSwapsTell() {
        for (long seed = 1; seed <= 60; seed++) {
            ClothMaker x = crowded();
            ClothMaker y = crowded();
            int done = 0;
            long state = seed;
            for (int k = 0; k < 100; k++) {
                state = state * 6364136223846793005L + 1442695040888963407L;
                int one = (int) ((state >>> 33) % 32);
                state = state * 6364136223846793005L + 1442695040888963407L;
                int other = (int) ((state >>> 33) % 32);
                int before = y.cost();
                if (y.swap(one, other) <= before) {
                    done++;
                } else {
                    y.swap(one, other);
                }
            }
            DUE.same("19: how many of seed " + seed, x.smooth(100, seed), done);
            DUE.same("20: COST", x.cost(), y.cost());
            for (int c = 0; c < 32; c++) {
                DUE.same("16: CELL " + c, x.tile(c), y.tile(c));
            }
        }
    }

    private static ClothMaker crowded() {
        ClothMaker x = new ClothMaker();
        Stage.crowd(x);
        x.tables();
        x.cloth(6, 6, 1, 4);
        x.set();
        return x;
    }

    /** 20: no WIRE costs nothing; the longest goes from corner to corner. */
    private static void costAtTheBounds() {
        ClothMaker x = new ClothMaker();
        x.input();
        x.gate(0, 0, 0);
        x.out(1);
        x.tables();
        x.cloth(6, 6, 2, 1);
        x.set();
        DUE.same("20: in one TILE", x.cost(), 0);
        x.move(1, 1);
        DUE.same("20: one column", x.cost(), 1);
        x.move(1, 6);
        DUE.same("20: one row", x.cost(), 1);
        x.move(1, 35);
        DUE.same("20: five and five", x.cost(), 10);
        x.swap(0, 1);
        DUE.same("20: from the other corner", x.cost(), 10);
        x.move(0, 5);
        DUE.same("20: columns alone", x.cost(), 5);
        x.move(0, 30);
        DUE.same("20: rows alone", x.cost(), 5);
    }

    /** 21: "ENDS ... are the TILES of these, but its own": none, one, and the most. */
    private static void endsAtTheBounds() {
        ClothMaker x = new ClothMaker();
        for (int k = 0; k < 6; k++) {
            x.keeper(false);
        }
        x.input();
        for (int k = 0; k < 8; k++) {
            x.gate(k % 2, 12, 13);
            x.out(7 + k);
        }
        for (int k = 0; k < 6; k++) {
            x.source(k, 6);
        }
        x.tables();
        x.cloth(4, 4, 1, 4);
        DUE.same("15: fifteen", x.set(), 15);
        DUE.same("21: one WIRE", x.wires(0, 0), 1);
        DUE.same("21: fourteen ENDS", x.wires(6, 1), 14);
        DUE.same("21: KEEPER 0 has no WIRE", x.wires(0, 1), 0);
        DUE.same("21: nor TABLE 14", x.wires(14, 1), 0);
        x.cloth(2, 2, 4, 4);
        x.set();
        DUE.same("21: in three TILES", x.wires(6, 1), 3);
        x = new ClothMaker();
        x.keeper(false);
        x.input();
        x.source(0, 1);
        x.tables();
        x.set();
        DUE.same("21: in its own TILE", x.wires(1, 1), 0);
        x.move(0, 8);
        DUE.same("21: KEEPER 0 is its END", x.wires(1, 1), 1);
        DUE.same("20: COST", x.cost(), 4);
    }

    /** 11, 15, 21: a GATE that was a TABLE and is none any more has no place and is no END. */
    private static void tableNoMore() {
        ClothMaker x = new ClothMaker();
        x.keeper(false);
        x.input();
        x.gate(0, 2, 2);
        x.gate(0, 2, 3);
        x.source(0, 2);
        DUE.same("11: GATE 2 is WANTED", x.tables(), 1);
        DUE.same("15: three", x.set(), 3);
        x.move(2, 8);
        DUE.same("21: INPUT 1 has an END", x.wires(1, 1), 1);
        x.source(0, 3);
        DUE.same("12: not found yet", x.table(2, 0), ClothMaker.MISSING);
        DUE.same("11: GATE 3 is WANTED", x.tables(), 1);
        DUE.same("12: GATE 2 is none", x.table(2, 0), ClothMaker.MISSING);
        x.cloth(1, 1, 4, 1);
        DUE.same("15: three again", x.set(), 3);
        DUE.same("16: GATE 2 is no THING", x.tile(2), ClothMaker.MISSING);
        DUE.same("21: INPUT 1 has no END", x.wires(1, 1), 0);
        DUE.same("20: no COST", x.cost(), 0);
        DUE.same("27: its bytes are not there", x.frames(), 4 + 3 + 6 + 1);
    }
}
