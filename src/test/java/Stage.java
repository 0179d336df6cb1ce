/** How far an object has come; each makes objects that are all alike. */
enum Stage {
    /** No call yet. */
    NEW,
    /** The small net, run for two CLOCKS; THE CLOTH is 3 by 2, its TILE 5 BROKEN. */
    NET,
    /** TABLES are found as well. */
    FOUND,
    /** And THINGS are SET. */
    SET,
    /** And WIRES are led; it does not get LED. */
    LED,
    /** And FRAMES are written: no CLOCK since. */
    WRITTEN,
    /** And one is bent, THE CLOTH has run for three CLOCKS, and THE ROW is laid. */
    LAID,
    /** The small net in a CLOTH that has ROOM for 3 of its 4 THINGS; TABLES are not found. */
    TIGHT,
    /** TABLES are found as well. */
    TIGHT_FOUND,
    /** Six INPUTS, and nothing else is full. */
    INPUTS_FULL,
    /** Six KEEPERS, and nothing else is full. */
    KEEPERS_FULL,
    /** Eight OUTS, and nothing else is full. */
    OUTS_FULL,
    /** 32 CELLS, of these one INPUT, one KEEPER, one OUT. */
    CELLS_FULL,
    /** All is full: the net of 32 THINGS in 8 TILES with ROOM for 4, up to a laid ROW. */
    CROWDED;

    /** CELLS of the small net, its SIGNS, the TILES and the JOINTS of its CLOTH. */
    static final int CELLS = 5;
    static final int TILES = 6;
    static final int JOINTS = 7;

    ClothMaker make() {
        ClothMaker x = new ClothMaker();
        switch (this) {
            case NEW:
                break;
            case TIGHT:
            case TIGHT_FOUND:
                makeTight(x);
                break;
            case INPUTS_FULL:
            case KEEPERS_FULL:
                makeSix(x);
                break;
            case OUTS_FULL:
                makeOuts(x);
                break;
            case CELLS_FULL:
                makeCells(x);
                break;
            case CROWDED:
                crowd(x);
                x.cloth(4, 2, 4, 1);
                layAll(x);
                break;
            default:
                makeSmall(x);
                break;
        }
        return x;
    }

    /** KEEPER 0, INPUTS 1 and 2, GATE 3 (no TABLE), TABLE 4 (the SOURCE of 0); OUTS 4 and 1. */
    private static void smallNet(ClothMaker x) {
        x.keeper(true);
        x.input();
        x.input();
        x.gate(0, 2, 4);
        x.gate(2, 0, 6);
        x.source(0, 4);
        x.out(4);
        x.out(1);
    }

    private void makeSmall(ClothMaker x) {
        smallNet(x);
        x.cloth(3, 2, 2, 1);
        x.broken(5, true);
        x.clock(1);
        x.clock(3);
        if (ordinal() >= FOUND.ordinal()) {
            x.tables();
        }
        if (ordinal() >= SET.ordinal()) {
            x.set();
        }
        if (ordinal() >= LED.ordinal()) {
            x.lead(3);
        }
        if (ordinal() >= WRITTEN.ordinal()) {
            x.frames();
        }
        if (ordinal() >= LAID.ordinal()) {
            x.bend(1, 7, 2);
            x.clock(1);
            x.clock(3);
            x.clock(0);
            x.lay(0);
        }
    }

    private void makeTight(ClothMaker x) {
        smallNet(x);
        x.cloth(1, 1, 3, 1);
        if (this == TIGHT_FOUND) {
            x.tables();
        }
    }

    private void makeSix(ClothMaker x) {
        for (int k = 0; k < 6; k++) {
            if (this == INPUTS_FULL) {
                x.input();
            } else {
                x.keeper(k % 2 == 0);
            }
        }
        x.out(0);
        layAll(x);
    }

    private static void makeOuts(ClothMaker x) {
        smallNet(x);
        for (int k = 0; k < 6; k++) {
            x.out(k % CELLS);
        }
        layAll(x);
    }

    private static void makeCells(ClothMaker x) {
        x.input();
        x.keeper(true);
        for (int c = 2; c < 32; c++) {
            x.gate(c % 3, 2 * c - 2, 2 * c - 3);
        }
        x.out(31);
        x.source(1, 30);
        layAll(x);
    }

    private static void layAll(ClothMaker x) {
        x.tables();
        x.set();
        x.lead(2);
        x.frames();
        x.clock(1);
        x.clock(0);
        x.lay(0);
    }

    /** Which two of CELLS 12 .. 17 are in each of CELLS 18 .. 23. */
    private static final int[][] FOURS = {{12, 13}, {14, 15}, {16, 17}, {12, 14}, {13, 16}, {15, 17}};
    /** Which two of CELLS 18 .. 23 are in each of CELLS 24 .. 31. */
    private static final int[][] EIGHTS =
        {{18, 19}, {19, 20}, {18, 20}, {21, 22}, {22, 23}, {21, 23}, {18, 23}, {19, 22}};

    /**
     * All 32 CELLS are THINGS: INPUTS 0 .. 5, KEEPERS 6 .. 11, GATES 12 .. 17 of two of these each,
     * which are SOURCES, 18 .. 23 of four each, which are in CONES alone, and 24 .. 31 of two of
     * those each, which are OUTS.
     */
    static void crowd(ClothMaker x) {
        for (int k = 0; k < 6; k++) {
            x.input();
        }
        for (int k = 0; k < 6; k++) {
            x.keeper(k % 2 == 0);
        }
        for (int k = 0; k < 6; k++) {
            x.gate(k % 3, 4 * k, 4 * k + 3);
        }
        for (int[] two : FOURS) {
            x.gate(2, 2 * two[0], 2 * two[1] + 1);
        }
        for (int[] two : EIGHTS) {
            x.gate(1, 2 * two[0] + 1, 2 * two[1]);
        }
        for (int k = 0; k < 6; k++) {
            x.source(6 + k, 12 + k);
        }
        for (int c = 24; c < 32; c++) {
            x.out(c);
        }
    }
}
