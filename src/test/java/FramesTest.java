/** Promises 27 to 31: frames. */
public final class FramesTest {
    private static final Due DUE = new Due("FramesTest");

    public static void main(String[] args) {
        bytesAsTold();
        byCellsInATile();
        sumGoesRound();
        octetsRefused();
        bends();
        bendsRefused();
        checks();
        backs();
        DUE.end();
    }

    /** KEEPER 0 and INPUT 1 in TILE 0, TABLE 2 (0 kind 1), the SOURCE of 0, in TILE 1. */
    private static ClothMaker toggle(int kind) {
        ClothMaker x = new ClothMaker();
        x.keeper(true);
        x.input();
        x.gate(kind, 0, 2);
        x.source(0, 2);
        x.out(2);
        x.tables();
        x.cloth(2, 1, 2, 1);
        x.set();
        return x;
    }

    private static void bytesAre(String what, ClothMaker x, int tile, int... bytes) {
        for (int i = 0; i < bytes.length; i++) {
            DUE.same(what + ", TILE " + tile + " byte " + i, x.octet(tile, i), bytes[i]);
        }
        DUE.same(what + ", no more", x.octet(tile, bytes.length), ClothMaker.BEYOND);
    }

    private static void bytesAsTold() {
        ClothMaker x = toggle(2);
        DUE.same("27: how many bytes", x.frames(), 16);
        bytesAre("28", x, 0, 0, 1, 1, 2, 1, 0, 0, 250);
        bytesAre("28", x, 1, 2, 2, 2, 0, 1, 0x66, 0x66, 44);
        x.cloth(6, 6, 4, 1);
        DUE.same("27: nothing is SET", x.frames(), ClothMaker.MISSING);
        x.set();
        DUE.same("27: a SUM of each TILE", x.frames(), 14 + 36);
        bytesAre("28: an empty TILE", x, 35, 255);
    }

    private static void byCellsInATile() {
        ClothMaker x = toggle(2);
        x.cloth(2, 1, 3, 1);
        x.set();
        x.move(0, 1);
        x.move(0, 0);
        x.frames();
        DUE.same("28: CELL 0 is first again", x.octet(0, 0), 0);
        DUE.same("28: then 1", x.octet(0, 4), 1);
        DUE.same("28: then 2", x.octet(0, 7), 2);
        x.move(2, 1);
        x.move(1, 1);
        x.frames();
        DUE.same("28: 1 ahead of 2, though it came later", x.octet(1, 0), 1);
    }

    private static void sumGoesRound() {
        ClothMaker x = toggle(1);
        x.frames();
        bytesAre("28", x, 1, 2, 2, 2, 0, 1, 0xEE, 0xEE, 28);
        DUE.same("30: it is as told", x.check(), ClothMaker.NONE);
    }

    private static void octetsRefused() {
        ClothMaker x = toggle(2);
        DUE.same("28: TILE below", x.octet(-1, 0), ClothMaker.BEYOND);
        DUE.same("28: TILE beyond, ahead of MISSING", x.octet(2, 0), ClothMaker.BEYOND);
        DUE.same("28: not written, ahead of i", x.octet(1, -1), ClothMaker.MISSING);
        x.frames();
        DUE.same("28: i below", x.octet(1, -1), ClothMaker.BEYOND);
        DUE.same("28: i far beyond", x.octet(1, Integer.MAX_VALUE), ClothMaker.BEYOND);
        DUE.same("28: BEYOND is counted", x.status(ClothMaker.BEYOND), 4);
    }

    private static void bends() {
        ClothMaker x = toggle(2);
        x.frames();
        DUE.same("29: all bits", x.bend(1, 0, 255), 253);
        DUE.same("28: it is so", x.octet(1, 0), 253);
        DUE.same("28: only there", x.octet(0, 0), 0);
        DUE.same("29: one bit", x.bend(1, 0, 1), 252);
        DUE.same("29: back", x.bend(1, 0, 254), 2);
        DUE.same("29: the SUM", x.bend(1, 7, 4), 40);
        DUE.same("27: written anew", x.frames(), 16);
        DUE.same("28: as told", x.octet(1, 7), 44);
    }

    private static void bendsRefused() {
        ClothMaker x = toggle(2);
        DUE.same("29: TILE", x.bend(2, 99, 0), ClothMaker.BEYOND);
        DUE.same("29: TILE below", x.bend(-1, 99, 0), ClothMaker.BEYOND);
        DUE.same("29: not written", x.bend(1, 99, 0), ClothMaker.MISSING);
        x.frames();
        DUE.same("29: i", x.bend(1, 8, 0), ClothMaker.BEYOND);
        DUE.same("29: i below", x.bend(1, -1, 0), ClothMaker.BEYOND);
        DUE.same("29: no mask", x.bend(1, 7, 0), ClothMaker.NO);
        DUE.same("29: mask below", x.bend(1, 7, -1), ClothMaker.NO);
        DUE.same("29: mask beyond", x.bend(1, 7, 256), ClothMaker.NO);
        DUE.same("29: nothing changed", x.check(), ClothMaker.NONE);
    }

    private static void checks() {
        ClothMaker x = toggle(2);
        DUE.same("30: not written", x.check(), ClothMaker.MISSING);
        x.frames();
        DUE.same("30: all as told", x.check(), ClothMaker.NONE);
        x.bend(1, 3, 16);
        DUE.same("30: the second", x.check(), 1);
        x.bend(0, 7, 1);
        DUE.same("30: the first of both", x.check(), 0);
        x.bend(0, 7, 1);
        DUE.same("30: the second again", x.check(), 1);
        x.bend(1, 7, 44 ^ 28);
        DUE.same("30: 16 more, 16 less in the SUM", x.check(), ClothMaker.NONE);
    }

    private static void backs() {
        ClothMaker x = toggle(2);
        x.gate(0, 1, 3);
        x.out(3);
        x.tables();
        DUE.same("31: not written", x.back(), ClothMaker.MISSING);
        x.set();
        x.frames();
        DUE.same("31: as table() tells", x.back(), 0);
        x.bend(1, 3, 1);
        x.bend(1, 0, 1);
        x.bend(0, 3, 1);
        DUE.same("31: LETTERS and CELLS are no BITS", x.back(), 0);
        x.bend(1, 5, 1);
        DUE.same("31: a lower bit", x.back(), 1);
        x.bend(1, 6, 128);
        DUE.same("31: two bits of one TABLE", x.back(), 1);
        x.bend(1, 13, 128);
        DUE.same("31: two TABLES, a bit that no LETTER has", x.back(), 2);
        x.bend(1, 5, 1);
        DUE.same("31: the upper bit is still other", x.back(), 2);
        x.bend(1, 6, 128);
        DUE.same("31: one again", x.back(), 1);
        DUE.same("12: table() tells as before", x.table(3, 1), 0x1111);
    }
}
