/** Promises 32 to 34: INPUTS of a CLOCK, no CLOCK yet, LETTERS that there are not. */
public final class EdgesRunsTest {
    private static final Due DUE = new Due("EdgesRunsTest");

    public static void main(String[] args) {
        inputsOfAClock();
        noOuts();
        startsWithAndWithout();
        beginnings();
        manyClocks();
        differsAtOnceAndLate();
        allThirtyTwoRun();
        lettersThatThereAreNot();
        bitsThatNoLetterHas();
        keepersLetterIsTable();
        framesInBetween();
        DUE.end();
    }

    /** 33: "with INPUTS (bit i: the i-th by CELLS)"; "BEYOND: INPUTS". */
    private static void inputsOfAClock() {
        for (int n = 0; n <= 6; n++) {
            ClothMaker x = new ClothMaker();
            for (int k = 0; k < n; k++) {
                x.input();
            }
            for (int k = 0; k < n; k++) {
                x.out(k);
            }
            int all = (1 << n) - 1;
            DUE.same("33: none of " + n, x.clock(0), 0);
            DUE.same("33: all of " + n, x.clock(all), all);
            DUE.same("33: one too many of " + n, x.clock(all + 1), ClothMaker.BEYOND);
            DUE.same("33: and more", x.clock(all + 2), ClothMaker.BEYOND);
            DUE.same("33: bit 30", x.clock(1 << 30), ClothMaker.BEYOND);
            DUE.same("33: all bits", x.clock(-1), ClothMaker.BEYOND);
            DUE.same("33: the least number", x.clock(Integer.MIN_VALUE), ClothMaker.BEYOND);
            DUE.same("33: the greatest", x.clock(Integer.MAX_VALUE), ClothMaker.BEYOND);
            DUE.same("34: as before", x.told(0), all);
            DUE.same("34: two CLOCKS", x.told(2), 2);
            for (int k = 0; k < n; k++) {
                DUE.same("33: INPUT " + k, x.clock(1 << k), 1 << k);
            }
        }
    }

    private static void noOuts() {
        ClothMaker x = Stage.NEW.make();
        x.tables();
        x.set();
        x.frames();
        DUE.same("33: nothing to tell", x.clock(0), 0);
        DUE.same("34: of the net", x.told(0), 0);
        DUE.same("34: of THE CLOTH", x.told(1), 0);
        DUE.same("34: one CLOCK", x.told(2), 1);
        DUE.same("34: they never differ", x.told(3), ClothMaker.NONE);
    }

    /** 32: "1 if THE CLOTH can run (FRAMES are written), else 0". */
    private static void startsWithAndWithout() {
        int[] due = {0, 0, 0, 0, 0, 1, 1};
        for (int k = 0; k < due.length; k++) {
            ClothMaker x = Stage.values()[k].make();
            DUE.same("32: " + Stage.values()[k], x.start(), due[k]);
            DUE.same("34: no CLOCKS", x.told(2), 0);
            DUE.same("34: nothing told", x.told(0), ClothMaker.MISSING);
            DUE.same("32: once more", x.start(), due[k]);
        }
        ClothMaker x = Stage.LAID.make();
        x.move(0, 3);
        DUE.same("32: FRAMES were taken away", x.start(), 0);
    }

    /** "KEEPERS at their first values": of both, with either value. */
    private static void beginnings() {
        ClothMaker x = new ClothMaker();
        x.keeper(true);
        x.keeper(false);
        x.input();
        x.source(0, 2);
        x.source(1, 2);
        x.out(0);
        x.out(1);
        x.tables();
        x.set();
        x.frames();
        for (int in = 0; in < 2; in++) {
            DUE.same("33: at the beginning", x.clock(in), 0b01);
            DUE.same("34: of THE CLOTH", x.told(1), 0b01);
            DUE.same("33: both are what was told", x.clock(1 - in), 3 * in);
            DUE.same("34: of THE CLOTH", x.told(1), 3 * in);
            x.start();
        }
        x.clock(1);
        x.frames();
        DUE.same("27: at the beginning", x.clock(0), 0b01);
        DUE.same("34: of THE CLOTH", x.told(1), 0b01);
    }

    /** 34: "CLOCKS since the beginning", as many as an object has calls for. */
    private static void manyClocks() {
        ClothMaker x = new ClothMaker();
        x.keeper(false);
        x.gate(0, 1, 1);
        x.source(0, 1);
        x.out(0);
        x.tables();
        x.set();
        x.frames();
        for (int k = 0; k < 500; k++) {
            DUE.same("33: to and fro", x.clock(0), k % 2);
        }
        DUE.same("34: CLOCKS", x.told(2), 500);
        DUE.same("34: of THE CLOTH", x.told(1), 1);
        DUE.same("34: never", x.told(3), ClothMaker.NONE);
    }

    /** 34: "the first CLOCK (from 1) at which these differed, or NONE". */
    private static void differsAtOnceAndLate() {
        for (int late = 0; late < 4; late++) {
            ClothMaker x = new ClothMaker();
            x.input();
            x.gate(0, 0, 0);
            x.out(1);
            x.tables();
            x.cloth(2, 1, 1, 1);
            x.set();
            x.frames();
            DUE.same("34: no CLOCK yet", x.told(3), ClothMaker.NONE);
            x.bend(1, 4, 2);
            for (int k = 0; k < late; k++) {
                x.clock(0);
                DUE.same("34: the bit was not met", x.told(3), ClothMaker.NONE);
            }
            DUE.same("33: of the net", x.clock(1), 1);
            DUE.same("34: of THE CLOTH", x.told(1), 0);
            DUE.same("34: the first", x.told(3), late + 1);
            x.bend(1, 4, 2);
            x.clock(1);
            DUE.same("34: as the net again", x.told(1), 1);
            DUE.same("34: the first, still", x.told(3), late + 1);
        }
    }

    private static void allThirtyTwoRun() {
        ClothMaker x = new ClothMaker();
        Stage.crowd(x);
        x.tables();
        x.cloth(4, 2, 4, 4);
        x.set();
        x.frames();
        int seen = 0;
        for (int in = 0; in < 64; in++) {
            int outs = x.clock(in);
            DUE.same("34: of THE CLOTH", x.told(1), outs);
            DUE.holds("33: eight bits", outs >= 0 && outs <= 255);
            seen |= outs;
        }
        DUE.same("33: each OUT was 1", seen, 255);
        DUE.same("34: they never differed", x.told(3), ClothMaker.NONE);
    }

    /** INPUT 0, GATE 1 (no TABLE), TABLE 2 of INPUT 0, KEEPER 3 of INPUT 0; OUTS 2 and 3. */
    private static ClothMaker four() {
        ClothMaker x = new ClothMaker();
        x.input();
        x.gate(0, 0, 1);
        x.gate(0, 0, 0);
        x.keeper(false);
        x.source(3, 0);
        x.out(2);
        x.out(3);
        x.tables();
        x.cloth(3, 1, 1, 1);
        x.set();
        x.frames();
        return x;
    }

    /** "A LETTER is the THING of that number; one that there is not is 0". */
    private static void lettersThatThereAreNot() {
        int[] strange = {1, 4, 5, 30, 31, 32, 33, 64, 127, 128, 255};
        for (int letter : strange) {
            ClothMaker x = four();
            x.bend(1, 3, letter);
            x.bend(2, 3, letter);
            x.clock(1);
            DUE.same("34: TABLE 2 of LETTER " + letter, x.told(1), 0);
            DUE.same("34: of the net", x.told(0), 1);
            x.clock(1);
            DUE.same("34: KEEPER 3 of LETTER " + letter, x.told(1), 0);
            DUE.same("34: of the net", x.told(0), 3);
        }
        ClothMaker x = four();
        x.bend(1, 3, 3);
        x.clock(1);
        DUE.same("34: KEEPER 3 is one, and 0 yet", x.told(1), 0);
        x.clock(0);
        DUE.same("34: then it is 1", x.told(1), 3);
        x.bend(1, 3, 3 ^ 2);
        x.clock(1);
        DUE.same("34: TABLE 2 itself is not reckoned yet", x.told(1), 0);
    }

    /** "bit i of the BITS", "bit j of i being LETTER j": bits of i that no LETTER has are 0. */
    private static void bitsThatNoLetterHas() {
        ClothMaker x = four();
        for (int bit = 2; bit < 16; bit++) {
            x.bend(1, 4 + bit / 8, 1 << bit % 8);
        }
        for (int in = 1; in >= 0; in--) {
            int outs = x.clock(in);
            DUE.same("34: bits 0 and 1 alone", x.told(1), outs);
        }
        DUE.same("31: though they are others", x.back(), 1);
        x.bend(1, 4, 1);
        x.clock(0);
        DUE.same("34: bit 0", x.told(1), 1);
        x.bend(1, 4, 2);
        x.clock(1);
        DUE.same("34: bit 1", x.told(1), 0);
        x = four();
        x.clock(1);
        // The lower 8 are 3 now, and KEEPER 3 is 1: it is no LETTER for that.
        x.bend(1, 4, 0xAA ^ 3);
        x.clock(0);
        DUE.same("34: BITS are no LETTER", x.told(1), 0b11);
    }

    /** A KEEPER becomes a TABLE that is by CELLS behind it: all are reckoned by then. */
    private static void keepersLetterIsTable() {
        ClothMaker x = new ClothMaker();
        x.keeper(false);
        x.input();
        x.gate(0, 2, 2);
        x.out(0);
        x.out(2);
        x.tables();
        x.cloth(3, 1, 1, 1);
        x.set();
        x.frames();
        DUE.same("28: itself", x.octet(0, 3), 0);
        x.bend(0, 3, 2);
        x.clock(1);
        DUE.same("34: not yet", x.told(1), 0b10);
        x.clock(0);
        DUE.same("34: TABLE 2 as it was", x.told(1), 0b01);
        DUE.same("34: of the net", x.told(0), 0b00);
        DUE.same("34: the second CLOCK", x.told(3), 2);
    }

    /** 33: "of the net alone, if FRAMES are not written". */
    private static void framesInBetween() {
        ClothMaker x = four();
        x.clock(1);
        x.swap(0, 2);
        DUE.same("33: the net alone", x.clock(1), 3);
        DUE.same("34: CLOCKS go on", x.told(2), 2);
        DUE.same("34: no FRAMES", x.told(1), ClothMaker.MISSING);
        DUE.same("34: no FRAMES", x.told(3), ClothMaker.MISSING);
        x.frames();
        DUE.same("34: at the beginning", x.told(2), 0);
        DUE.same("34: of 0 no CLOCK", x.told(0), ClothMaker.MISSING);
        DUE.same("34: of 1 no CLOCK", x.told(1), ClothMaker.MISSING);
        DUE.same("34: of 3 none is needed", x.told(3), ClothMaker.NONE);
        DUE.same("33: KEEPER 3 is 0", x.clock(1), 1);
        DUE.same("34: of THE CLOTH", x.told(1), 1);
    }
}
