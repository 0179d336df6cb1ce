/** Promises 27 to 31: the shortest and the longest FRAMES, SUMS that go round, masks, all bent. */
public final class EdgesFramesTest {
    private static final Due DUE = new Due("EdgesFramesTest");

    public static void main(String[] args) {
        leastBytes();
        mostBytes();
        bytesOfEachKind();
        sumsGoRound();
        lastTile();
        lastCellAsByte();
        masksAtTheBounds();
        bendsStayBytes();
        checksFirstOfAll();
        backOfNoneAndAll();
        everyBitOfBits();
        writtenAnew();
        DUE.end();
    }

    /** 27: one empty TILE. */
    private static void leastBytes() {
        ClothMaker x = new ClothMaker();
        x.cloth(1, 1, 1, 1);
        x.tables();
        DUE.same("27: nothing is SET", x.frames(), ClothMaker.MISSING);
        x.set();
        DUE.same("27: the SUM alone", x.frames(), 1);
        DUE.same("28: 255 less nothing", x.octet(0, 0), 255);
        DUE.same("28: no byte 1", x.octet(0, 1), ClothMaker.BEYOND);
        DUE.same("28: no byte -1", x.octet(0, -1), ClothMaker.BEYOND);
        DUE.same("30: as told", x.check(), ClothMaker.NONE);
        DUE.same("31: no TABLES", x.back(), 0);
    }

    /** 27: all 32 THINGS in 36 TILES. */
    private static void mostBytes() {
        ClothMaker x = new ClothMaker();
        Stage.crowd(x);
        x.tables();
        x.cloth(6, 6, 1, 1);
        x.set();
        int due = 6 * 3 + 6 * 4 + 14 * (5 + 2) + 6 * (5 + 4) + 36;
        DUE.same("27: in all", x.frames(), due);
        DUE.same("30: all SUMS", x.check(), ClothMaker.NONE);
        DUE.same("31: all BITS", x.back(), 0);
        for (int t = 0; t < 32; t++) {
            DUE.same("28: CELL " + t, x.octet(t, 0), t);
        }
        for (int t = 32; t < 36; t++) {
            DUE.same("28: an empty TILE", x.octet(t, 0), 255);
        }
        x.cloth(4, 2, 4, 1);
        x.set();
        DUE.same("27: in 8 TILES", x.frames(), due - 28);
    }

    /** "its CELL, its KIND, how many LETTERS it has, these, and of a TABLE its BITS". */
    private static void bytesOfEachKind() {
        int[] lengths = {3, 4, 6, 7, 8, 9};
        for (int letters = 1; letters <= 4; letters++) {
            ClothMaker x = new ClothMaker();
            for (int k = 0; k < 5; k++) {
                x.input();
            }
            int last = x.gate(1, 0, 0);
            for (int k = 1; k < letters; k++) {
                last = x.gate(1, 2 * last, 2 * k);
            }
            x.keeper(false);
            x.out(last);
            x.tables();
            x.cloth(6, 6, 1, 1);
            x.set();
            x.frames();
            DUE.same("35: INPUT", x.lay(0), lengths[0] + 1);
            DUE.same("35: TABLE of " + letters, x.lay(5), lengths[1 + letters] + 1);
            DUE.same("35: KEEPER", x.lay(6), lengths[1] + 1);
            DUE.same("28: KIND of an INPUT", x.octet(4, 1), 0);
            DUE.same("28: no LETTERS", x.octet(4, 2), 0);
            DUE.same("28: KIND of a TABLE", x.octet(5, 1), 2);
            DUE.same("28: how many", x.octet(5, 2), letters);
            DUE.same("28: the first", x.octet(5, 3), 0);
            DUE.same("28: the last", x.octet(5, 2 + letters), letters - 1);
            DUE.same("28: the lower 8", x.octet(5, 3 + letters), x.table(last, 1) & 255);
            DUE.same("28: the upper 8", x.octet(5, 4 + letters), x.table(last, 1) >> 8);
            DUE.same("28: KIND of a KEEPER", x.octet(6, 1), 1);
            DUE.same("28: one LETTER", x.octet(6, 2), 1);
            DUE.same("28: itself", x.octet(6, 3), last + 1);
        }
    }

    /** "255 less all bytes before, modulo 256": at 255, at 256, and as far as it goes. */
    private static void sumsGoRound() {
        ClothMaker x = new ClothMaker();
        x.input();
        x.cloth(1, 1, 1, 1);
        x.tables();
        x.set();
        x.frames();
        DUE.same("28: 255 less 0", x.octet(0, 3), 255);
        x.bend(0, 0, 255);
        DUE.same("30: not as told", x.check(), 0);
        x.bend(0, 3, 255);
        DUE.same("30: 255 less 255 is 0", x.check(), ClothMaker.NONE);
        x.bend(0, 1, 1);
        DUE.same("30: not as told", x.check(), 0);
        x.bend(0, 3, 255);
        DUE.same("30: 255 less 256 is 255", x.check(), ClothMaker.NONE);
        x.bend(0, 1, 254);
        x.bend(0, 2, 255);
        DUE.same("30: not as told", x.check(), 0);
        x.bend(0, 3, 255 ^ 2);
        DUE.same("30: 255 less 3 times 255 is 2", x.check(), ClothMaker.NONE);
        x.bend(0, 3, 128);
        DUE.same("30: 128 more is not the same", x.check(), 0);
    }

    /** 28: bytes of TILE 35, and no TILE 36. */
    private static void lastTile() {
        ClothMaker x = new ClothMaker();
        x.keeper(true);
        x.cloth(6, 6, 1, 1);
        x.tables();
        x.set();
        x.move(0, 35);
        DUE.same("27: in all", x.frames(), 36 + 4);
        int[] due = {0, 1, 1, 0, 253};
        for (int i = 0; i < 5; i++) {
            DUE.same("28: byte " + i, x.octet(35, i), due[i]);
        }
        DUE.same("28: no byte 5", x.octet(35, 5), ClothMaker.BEYOND);
        DUE.same("28: no TILE 36", x.octet(36, 0), ClothMaker.BEYOND);
        DUE.same("29: the last byte of all", x.bend(35, 4, 1), 252);
        DUE.same("30: the last TILE", x.check(), 35);
        DUE.same("29: no TILE 36", x.bend(36, 0, 1), ClothMaker.BEYOND);
    }

    /** CELL 31 as a THING and as a LETTER. */
    private static void lastCellAsByte() {
        ClothMaker x = new ClothMaker();
        x.keeper(false);
        for (int c = 1; c < 32; c++) {
            x.gate(2, 1, 2 * c - 2);
        }
        x.source(0, 31);
        x.tables();
        x.cloth(1, 1, 2, 1);
        DUE.same("15: two", x.set(), 2);
        x.frames();
        DUE.same("28: the SOURCE", x.octet(0, 3), 31);
        DUE.same("28: the TABLE", x.octet(0, 4), 31);
        DUE.same("28: its LETTER", x.octet(0, 7), 0);
        DUE.same("31: its BITS", x.back(), 0);
        x.bend(0, 9, 128);
        DUE.same("31: bit 15 of CELL 31", x.back(), 1);
    }

    /** 29: "Bits of a mask (1 .. 255)". */
    private static void masksAtTheBounds() {
        ClothMaker x = new ClothMaker();
        x.input();
        x.tables();
        x.set();
        x.frames();
        DUE.same("29: the least", x.bend(0, 0, 1), 1);
        DUE.same("29: the greatest", x.bend(0, 0, 255), 254);
        DUE.same("29: below the least", x.bend(0, 0, 0), ClothMaker.NO);
        DUE.same("29: above the greatest", x.bend(0, 0, 256), ClothMaker.NO);
        DUE.same("29: below 0", x.bend(0, 0, -1), ClothMaker.NO);
        DUE.same("28: it is as it was", x.octet(0, 0), 254);
        DUE.same("29: of the last byte", x.bend(0, 3, 255), 0);
        DUE.same("29: no byte behind it", x.bend(0, 4, 255), ClothMaker.BEYOND);
    }

    private static void bendsStayBytes() {
        ClothMaker x = new ClothMaker();
        x.tables();
        x.set();
        x.frames();
        int value = 255;
        for (int mask = 1; mask <= 255; mask++) {
            value ^= mask;
            DUE.same("29: what it is", x.bend(8, 0, mask), value);
        }
        DUE.same("28: so it is", x.octet(8, 0), value);
        DUE.same("28: only there", x.octet(7, 0), 255);
    }

    /** 30: "The first TILE whose SUM is not as told; NONE". */
    private static void checksFirstOfAll() {
        ClothMaker x = new ClothMaker();
        x.tables();
        x.set();
        x.frames();
        DUE.same("30: none", x.check(), ClothMaker.NONE);
        for (int t = 8; t >= 0; t--) {
            x.bend(t, 0, 1 << t % 8);
            DUE.same("30: the first", x.check(), t);
        }
        for (int t = 0; t < 9; t++) {
            x.bend(t, 0, 1 << t % 8);
            DUE.same("30: the next", x.check(), t == 8 ? ClothMaker.NONE : t + 1);
        }
    }

    /** 31: "how many TABLES have others there than table() tells": none, and all. */
    private static void backOfNoneAndAll() {
        ClothMaker x = new ClothMaker();
        Stage.crowd(x);
        x.tables();
        x.cloth(6, 6, 1, 1);
        x.set();
        x.frames();
        DUE.same("31: none", x.back(), 0);
        for (int c = 0; c < 12; c++) {
            x.bend(c, 2, 255);
        }
        DUE.same("31: these are no TABLES", x.back(), 0);
        for (int c = 12; c < 32; c++) {
            int letters = x.table(c, 0);
            x.bend(c, 3 + letters + c % 2, 1 << c % 8);
            DUE.same("31: one more", x.back(), c - 11);
        }
        DUE.same("31: all twenty", x.back(), 20);
        DUE.same("12: table() tells as before", x.table(12, 1), 0x2222);
    }

    /** 31: each of the 16 bits alone, those too that no LETTER has. */
    private static void everyBitOfBits() {
        ClothMaker x = new ClothMaker();
        x.input();
        x.gate(0, 0, 0);
        x.out(1);
        x.tables();
        x.cloth(2, 1, 1, 1);
        x.set();
        x.frames();
        for (int bit = 0; bit < 16; bit++) {
            int mask = 1 << bit % 8;
            x.bend(1, 4 + bit / 8, mask);
            DUE.same("31: bit " + bit, x.back(), 1);
            x.bend(1, 4 + bit / 8, mask);
            DUE.same("31: as told", x.back(), 0);
        }
        for (int i = 0; i < 4; i++) {
            x.bend(1, i, 255);
        }
        x.bend(1, 6, 255);
        DUE.same("31: CELL, KIND, LETTERS, SUM are no BITS", x.back(), 0);
    }

    /** 27: what was bent is written anew. */
    private static void writtenAnew() {
        ClothMaker x = Stage.LAID.make();
        DUE.same("30: bent", x.check(), 1);
        DUE.same("27: as many bytes", x.frames(), 24);
        DUE.same("30: as told", x.check(), ClothMaker.NONE);
        DUE.same("28: as told", x.octet(1, 7), 1);
        DUE.same("34: both are at the beginning", x.told(2), 0);
    }
}
