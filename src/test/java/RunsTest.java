/** Promises 32 to 34: runs. */
public final class RunsTest {
    private static final Due DUE = new Due("RunsTest");

    public static void main(String[] args) {
        netAlone();
        keepersAtOnce();
        sourceIsInput();
        inputsByCells();
        starts();
        bothRun();
        bentBits();
        bentLetters();
        bentKeeper();
        laterTable();
        whatDoesNotMatter();
        tolds();
        DUE.end();
    }

    /** KEEPER 0 becomes 0 UNLIKE 1, which is OUT 0; KEEPER 0 is OUT 1. */
    private static ClothMaker toggle(boolean first) {
        ClothMaker x = new ClothMaker();
        x.keeper(first);
        x.input();
        x.gate(2, 0, 2);
        x.source(0, 2);
        x.out(2);
        x.out(0);
        return x;
    }

    /** KEEPER 0 and INPUT 1 in TILE 0, TABLE 2 in TILE 1. */
    private static ClothMaker clothOf(ClothMaker x) {
        x.tables();
        x.cloth(2, 1, 2, 1);
        x.set();
        x.frames();
        return x;
    }

    private static void netAlone() {
        ClothMaker x = toggle(false);
        DUE.same("33: OUTS ahead of the change", x.clock(1), 0b01);
        DUE.same("33: then it is 1", x.clock(0), 0b11);
        DUE.same("33: and back", x.clock(1), 0b10);
        DUE.same("33: 0 again", x.clock(0), 0b00);
        DUE.same("33: beyond", x.clock(2), ClothMaker.BEYOND);
        DUE.same("33: below", x.clock(-1), ClothMaker.BEYOND);
        DUE.same("34: refused CLOCKS do not count", x.told(2), 4);
        DUE.same("34: of the net", x.told(0), 0);
        DUE.same("34: no FRAMES", x.told(1), ClothMaker.MISSING);
        DUE.same("34: no FRAMES", x.told(3), ClothMaker.MISSING);
        x = new ClothMaker();
        DUE.same("33: no INPUTS", x.clock(0), 0);
        DUE.same("33: no INPUT 0", x.clock(1), ClothMaker.BEYOND);
        DUE.same("33: the least number", x.clock(Integer.MIN_VALUE), ClothMaker.BEYOND);
    }

    private static void keepersAtOnce() {
        ClothMaker x = new ClothMaker();
        x.keeper(true);
        x.keeper(false);
        x.source(0, 1);
        x.source(1, 0);
        x.out(0);
        x.out(1);
        clothOf(x);
        DUE.same("33: at first", x.clock(0), 0b01);
        DUE.same("33: changed about", x.clock(0), 0b10);
        DUE.same("34: THE CLOTH as well", x.told(1), 0b10);
        DUE.same("33: and back", x.clock(0), 0b01);
        DUE.same("34: THE CLOTH as well", x.told(1), 0b01);
    }

    private static void sourceIsInput() {
        ClothMaker x = new ClothMaker();
        x.keeper(false);
        x.input();
        x.source(0, 1);
        x.out(0);
        clothOf(x);
        DUE.same("33: not yet", x.clock(1), 0);
        DUE.same("33: what was told", x.clock(0), 1);
        DUE.same("34: THE CLOTH as well", x.told(1), 1);
    }

    private static void inputsByCells() {
        ClothMaker x = new ClothMaker();
        for (int k = 0; k < 6; k++) {
            x.input();
            x.keeper(false);
        }
        for (int k = 5; k >= 0; k--) {
            x.out(2 * k);
        }
        x.tables();
        x.cloth(2, 2, 4, 1);
        x.set();
        x.frames();
        DUE.same("33: bit i is the i-th", x.clock(0b000111), 0b111000);
        DUE.same("34: THE CLOTH as well", x.told(1), 0b111000);
        DUE.same("33: all", x.clock(63), 63);
        DUE.same("33: beyond", x.clock(64), ClothMaker.BEYOND);
    }

    private static void starts() {
        ClothMaker x = toggle(true);
        DUE.same("32: it can't run", x.start(), 0);
        x.clock(1);
        x.clock(1);
        DUE.same("32: at the beginning", x.start(), 0);
        DUE.same("34: no CLOCKS", x.told(2), 0);
        DUE.same("34: nothing is told", x.told(0), ClothMaker.MISSING);
        DUE.same("33: KEEPERS as at first", x.clock(0), 0b11);
        x.clock(1);
        clothOf(x);
        DUE.same("27: both are at the beginning", x.told(2), 0);
        DUE.same("33: the net too", x.clock(1), 0b10);
        DUE.same("33: then", x.clock(0), 0);
        DUE.same("32: it can run", x.start(), 1);
        DUE.same("34: of THE CLOTH nothing", x.told(1), ClothMaker.MISSING);
        x.clock(0);
        DUE.same("34: THE CLOTH's KEEPERS as at first", x.told(1), 0b11);
    }

    private static void bothRun() {
        ClothMaker x = clothOf(toggle(false));
        int[] inputs = {1, 0, 1, 1, 0, 1, 1, 1, 0, 0};
        for (int in : inputs) {
            int net = x.clock(in);
            DUE.same("34: the net", x.told(0), net);
            DUE.same("34: THE CLOTH", x.told(1), net);
        }
        DUE.same("34: CLOCKS", x.told(2), 10);
        DUE.same("34: they never differed", x.told(3), ClothMaker.NONE);
    }

    private static void bentBits() {
        ClothMaker x = clothOf(toggle(false));
        x.clock(1);
        x.clock(0);
        x.bend(1, 5, 0b0100);
        DUE.same("33: the net goes on, 1 and 0", x.clock(0), 0b11);
        DUE.same("34: bit 1 of BITS was not bent", x.told(1), 0b11);
        x.clock(1);
        x.clock(0);
        DUE.same("34: not yet", x.told(3), ClothMaker.NONE);
        DUE.same("33: 0 and 1", x.clock(1), 0b01);
        DUE.same("34: bit 2 of BITS was bent", x.told(1), 0b00);
        DUE.same("34: the first CLOCK", x.told(3), 6);
        DUE.same("33: the net's KEEPER is 1", x.clock(0), 0b11);
        DUE.same("34: THE CLOTH's is 0", x.told(1), 0b00);
        DUE.same("34: still the first", x.told(3), 6);
        x.start();
        DUE.same("34: none from the beginning", x.told(3), ClothMaker.NONE);
        DUE.same("31: FRAMES are still bent", x.back(), 1);
        x.clock(1);
        DUE.same("34: so they differ at once", x.told(3), 1);
    }

    private static void bentLetters() {
        ClothMaker x = clothOf(toggle(true));
        x.bend(1, 3, 1);
        DUE.same("33: the net, 1 UNLIKE 1", x.clock(1), 0b10);
        DUE.same("34: 1 UNLIKE 1 by the other LETTER", x.told(1), 0b10);
        DUE.same("33: the net, 0 UNLIKE 1", x.clock(1), 0b01);
        DUE.same("34: 1 UNLIKE 1 once more", x.told(1), 0b00);
        x.frames();
        x.bend(1, 3, 3);
        x.clock(1);
        DUE.same("34: CELL 3 there is not: 0 UNLIKE 1", x.told(1), 0b11);
        x.frames();
        x.bend(1, 3, 128);
        x.clock(1);
        DUE.same("34: nor CELL 128", x.told(1), 0b11);
        x.frames();
        x.bend(1, 3, 255);
        x.clock(0);
        DUE.same("34: nor CELL 255", x.told(1), 0b10);
    }

    private static void bentKeeper() {
        ClothMaker x = clothOf(toggle(false));
        x.bend(0, 3, 2 ^ 1);
        DUE.same("33: the net", x.clock(1), 0b01);
        DUE.same("33: the net's KEEPER is 1", x.clock(1), 0b10);
        DUE.same("34: it became INPUT 1", x.told(1), 0b10);
        x.clock(1);
        DUE.same("33: the net's is 0", x.told(0), 0b01);
        DUE.same("34: THE CLOTH's is 1", x.told(1), 0b10);
        x.frames();
        x.bend(0, 3, 64);
        x.clock(1);
        x.clock(1);
        DUE.same("34: it became what there is not", x.told(1), 0b01);
    }

    /** TABLE 3 (of 0) and TABLE 4 (of 1) are OUTS; GATE 2 is no TABLE. */
    private static void laterTable() {
        ClothMaker x = new ClothMaker();
        x.input();
        x.input();
        x.gate(0, 0, 2);
        x.gate(0, 0, 0);
        x.gate(0, 2, 2);
        x.out(3);
        x.out(4);
        x.tables();
        x.cloth(1, 1, 4, 1);
        x.set();
        x.frames();
        x.clock(3);
        DUE.same("34: as the net", x.told(1), 0b11);
        DUE.same("28: the LETTER of 3", x.octet(0, 9), 0);
        x.bend(0, 9, 4);
        DUE.same("33: the net", x.clock(3), 0b11);
        DUE.same("34: 4 is not reckoned yet, though it was 1", x.told(1), 0b10);
        x.bend(0, 9, 4 ^ 3);
        x.clock(3);
        DUE.same("34: nor is 3 itself", x.told(1), 0b10);
        x.bend(0, 9, 3 ^ 2);
        x.clock(3);
        DUE.same("34: 2 is no THING", x.told(1), 0b10);
        x.bend(0, 9, 2 ^ 1);
        x.clock(2);
        DUE.same("34: 1 is one", x.told(1), 0b11);
        x.bend(0, 9, 1);
        x.bend(0, 15, 1 ^ 3);
        x.clock(1);
        DUE.same("34: 3 is reckoned when 4 is", x.told(1), 0b11);
    }

    private static void whatDoesNotMatter() {
        ClothMaker x = clothOf(toggle(true));
        for (int i = 0; i < 3; i++) {
            x.bend(0, i, 255);
            x.bend(1, i, 255);
        }
        x.bend(0, 7, 255);
        int[] inputs = {0, 1, 1, 0};
        for (int in : inputs) {
            DUE.same("34: CELLS, KINDS, counts, SUMS", x.clock(in), x.told(1));
        }
        DUE.same("34: they never differed", x.told(3), ClothMaker.NONE);
    }

    private static void tolds() {
        ClothMaker x = toggle(false);
        DUE.same("34: below", x.told(-1), ClothMaker.NO);
        DUE.same("34: beyond", x.told(4), ClothMaker.NO);
        DUE.same("34: no CLOCK", x.told(0), ClothMaker.MISSING);
        DUE.same("34: no CLOCK", x.told(1), ClothMaker.MISSING);
        clothOf(x);
        DUE.same("34: no CLOCK yet", x.told(1), ClothMaker.MISSING);
        DUE.same("34: of 3 none is needed", x.told(3), ClothMaker.NONE);
        DUE.same("34: MISSING is counted", x.status(ClothMaker.MISSING), 3);
        x.clock(1);
        x.move(0, 1);
        DUE.same("34: without FRAMES", x.told(1), ClothMaker.MISSING);
        DUE.same("34: without FRAMES", x.told(3), ClothMaker.MISSING);
        DUE.same("34: the net goes on", x.told(0), 1);
        DUE.same("33: the net goes on", x.clock(0), 3);
        DUE.same("34: and counts", x.told(2), 2);
    }
}
