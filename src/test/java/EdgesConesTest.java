import java.util.ArrayList;
import java.util.Collections;
import java.util.List;
import java.util.TreeSet;

/** Promises 8 to 12: sets of 1 to 4, the first 40, LETTERS and BITS at their bounds. */
public final class EdgesConesTest {
    private static final Due DUE = new Due("EdgesConesTest");

    public static void main(String[] args) {
        oneToFourCells();
        noCutsOfPlainCells();
        lastCut();
        keepsTheFirstForty();
        exactlyForty();
        depthZero();
        noTables();
        wantedOnce();
        allTwentyTables();
        lettersOneToFour();
        bitsOfConstants();
        lastCellIsTable();
        DUE.end();
    }

    private static ClothMaker inputs(int n) {
        ClothMaker x = new ClothMaker();
        for (int k = 0; k < n; k++) {
            x.input();
        }
        return x;
    }

    /** 2: "CUTS of a GATE are sets of 1 to 4 CELLS". */
    private static void oneToFourCells() {
        ClothMaker x = inputs(5);
        x.gate(0, 0, 2);
        x.gate(0, 4, 6);
        x.gate(0, 10, 12);
        x.gate(0, 14, 8);
        x.gate(0, 14, 14);
        DUE.same("8: with four", x.cuts(7), 4);
        DUE.same("9: four", x.cut(7, 0), 0b1111);
        DUE.same("8: five are too many", x.cuts(8), 4);
        DUE.same("9: two", x.cut(8, 0), 0b10010000);
        DUE.same("9: three", x.cut(8, 1), 0b01110000);
        DUE.same("9: four, the least", x.cut(8, 2), 0b00111100);
        DUE.same("9: four, the other", x.cut(8, 3), 0b01010011);
        x.gate(1, 0, 1);
        DUE.same("8: of one CELL alone", x.cuts(10), 1);
        DUE.same("9: one", x.cut(10, 0), 1);
    }

    /** 2: "of an INPUT or KEEPER there are no CUTS". */
    private static void noCutsOfPlainCells() {
        ClothMaker x = inputs(1);
        x.keeper(true);
        x.gate(0, 0, 2);
        x.source(1, 2);
        DUE.same("8: INPUT", x.cuts(0), ClothMaker.KIND);
        DUE.same("8: KEEPER, though its SOURCE is a GATE", x.cuts(1), ClothMaker.KIND);
        DUE.same("9: of both the CELL alone is taken", x.cut(2, 0), 0b11);
        DUE.same("8: and no more", x.cuts(2), 1);
    }

    /** 9: "CUT i, from 0"; "BEYOND (i): 0, and status() tells of it". */
    private static void lastCut() {
        ClothMaker x = inputs(2);
        x.gate(0, 0, 2);
        x.gate(0, 4, 4);
        DUE.same("8: three", x.cuts(3), 3);
        DUE.same("9: the first", x.cut(3, 0), 0b011);
        DUE.same("9: the CELL alone", x.cut(3, 1), 0b100);
        DUE.same("9: the last", x.cut(3, 2), 0b111);
        DUE.same("39: not refused", x.status(ClothMaker.BEYOND), 0);
        DUE.same("9: behind the last", x.cut(3, 3), 0);
        DUE.same("39: one more", x.status(ClothMaker.BEYOND), 1);
        DUE.same("9: before the first", x.cut(3, -1), 0);
        DUE.same("39: two more", x.status(ClothMaker.BEYOND), 2);
        DUE.same("9: no GATE", x.cut(0, 0), 0);
        DUE.same("39: KIND", x.status(ClothMaker.KIND), 1);
        DUE.same("39: still two", x.status(ClothMaker.BEYOND), 2);
    }

    /** A net in which many GATES have more than 40 CUTS. */
    private static ClothMaker dense() {
        ClothMaker x = inputs(6);
        for (int c = 6; c < 32; c++) {
            x.gate(c % 3, 2 * (c - 1), 2 * (c - 2 - c % 4));
        }
        return x;
    }

    /** CUTS as sets of bits; without CUTS, the CELL alone. */
    private static List<Integer> kept(ClothMaker x, int cell) {
        List<Integer> all = new ArrayList<>();
        int n = x.cell(cell, 0) == 2 ? x.cuts(cell) : 0;
        for (int i = 0; i < n; i++) {
            all.add(x.cut(cell, i));
        }
        return all;
    }

    private static List<Integer> together(List<Integer> ofX, int x, List<Integer> ofY, int y) {
        List<Integer> one = new ArrayList<>(ofX);
        List<Integer> other = new ArrayList<>(ofY);
        one.add(1 << x);
        other.add(1 << y);
        TreeSet<Integer> all = new TreeSet<>();
        for (int a : one) {
            for (int b : other) {
                if (Integer.bitCount(a | b) <= 4) {
                    all.add(a | b);
                }
            }
        }
        return new ArrayList<>(all);
    }

    /**
     * "A GATE keeps the first 40 CUTS alone": each GATE's are reckoned here from those that its
     * x and y keep, and once more from all that there are, to see that the bound was met.
     */
    private static void keepsTheFirstForty() {
        List<List<Integer>> unbound = new ArrayList<>();
        for (int k = 0; k < 6; k++) {
            unbound.add(new ArrayList<>());
        }
        int bound = 0;
        int otherwise = 0;
        for (int gate = 6; gate < 32; gate++) {
            ClothMaker x = dense();
            int a = x.cell(gate, 1) / 2;
            int b = x.cell(gate, 2) / 2;
            List<Integer> due = together(kept(x, a), a, kept(x, b), b);
            areKept(gate, due);
            bound += due.size() > 40 ? 1 : 0;
            List<Integer> all = together(unbound.get(a), a, unbound.get(b), b);
            otherwise += all.size() != due.size() ? 1 : 0;
            unbound.add(all);
        }
        DUE.holds("8: some GATES had more than 40", bound > 5);
        DUE.holds("8: CUTS that were not kept were missed behind", otherwise > 5);
    }

    private static void areKept(int gate, List<Integer> due) {
        int[] depths = depths();
        List<Long> ranks = new ArrayList<>();
        for (int cut : due) {
            ranks.add(rankOf(depths, cut));
        }
        Collections.sort(ranks);
        int many = Math.min(40, ranks.size());
        ClothMaker x = dense();
        DUE.same("8: cuts(" + gate + ")", x.cuts(gate), many);
        DUE.same("10: depth(" + gate + ")", depths[gate], ranks.get(0) >> 40);
        for (int i = 0; i < many; i++) {
            DUE.same("9: cut(" + gate + ", " + i + ")", x.cut(gate, i), ranks.get(i).intValue());
        }
    }

    private static int[] depths() {
        ClothMaker x = dense();
        int[] all = new int[32];
        for (int c = 0; c < 32; c++) {
            all[c] = x.depth(c);
        }
        return all;
    }

    private static long rankOf(int[] depths, int cut) {
        long depth = 0;
        for (int c = 0; c < 32; c++) {
            if ((cut >>> c & 1) == 1) {
                depth = Math.max(depth, depths[c] + 1);
            }
        }
        return depth << 40 | (long) Integer.bitCount(cut) << 32 | cut;
    }

    /** 9: CUT 39 is the last that there can be. */
    private static void exactlyForty() {
        ClothMaker x = dense();
        DUE.same("8: no more than 40", x.cuts(31), 40);
        DUE.holds("9: CUT 39", x.cut(31, 39) > 0);
        DUE.holds("9: no CUT 39 that is CUT 38", x.cut(31, 39) != x.cut(31, 38));
        DUE.same("39: none was refused", x.status(ClothMaker.BEYOND), 0);
        DUE.same("9: CUT 40", x.cut(31, 40), 0);
        DUE.same("39: it was refused", x.status(ClothMaker.BEYOND), 1);
    }

    /** 10: "DEPTH of an INPUT or KEEPER is 0", "of a CUT 1 more than the greatest". */
    private static void depthZero() {
        ClothMaker x = inputs(5);
        x.keeper(true);
        x.gate(0, 0, 2);
        x.gate(0, 12, 4);
        x.gate(0, 14, 6);
        x.gate(0, 16, 8);
        x.gate(0, 18, 10);
        x.source(5, 10);
        DUE.same("10: KEEPER of a deep SOURCE", x.depth(5), 0);
        DUE.same("10: of two letters", x.depth(6), 1);
        DUE.same("10: of four letters", x.depth(8), 1);
        DUE.same("10: of five", x.depth(9), 2);
        DUE.same("10: of six", x.depth(10), 2);
        DUE.same("10: of one letter", depthOfSame(), 1);
        x.gate(0, 20, 0);
        x.gate(0, 22, 2);
        DUE.same("10: four letters, of these one of DEPTH 1", x.depth(11), 2);
        DUE.same("10: five letters, so one of DEPTH 2", x.depth(12), 3);
    }

    private static int depthOfSame() {
        ClothMaker x = inputs(1);
        x.gate(0, 0, 0);
        x.gate(0, 2, 2);
        return x.depth(2);
    }

    /** 11: nothing is WANTED. */
    private static void noTables() {
        ClothMaker x = new ClothMaker();
        DUE.same("11: no CELLS", x.tables(), 0);
        x.input();
        x.keeper(false);
        x.gate(0, 0, 2);
        DUE.same("11: no OUTS, a KEEPER of itself", x.tables(), 0);
        DUE.same("12: so it is none", x.table(2, 0), ClothMaker.MISSING);
        x.source(1, 0);
        x.out(0);
        x.out(1);
        DUE.same("11: of INPUTS and KEEPERS alone", x.tables(), 0);
        DUE.same("11: once more", x.tables(), 0);
    }

    /** 11: a GATE that is WANTED in several ways is one TABLE. */
    private static void wantedOnce() {
        ClothMaker x = inputs(5);
        x.keeper(false);
        x.gate(0, 0, 2);
        x.gate(0, 4, 6);
        x.gate(0, 12, 14);
        x.gate(0, 16, 8);
        for (int k = 0; k < 4; k++) {
            x.out(9);
            x.out(8);
        }
        x.source(5, 8);
        DUE.same("11: OUT, SOURCE, in a CONE", x.tables(), 2);
        DUE.same("11: and found again", x.tables(), 2);
        DUE.same("12: GATE 8 is one", x.table(8, 0), 4);
        DUE.same("12: GATE 6 is inside", x.table(6, 0), ClothMaker.MISSING);
    }

    private static void allTwentyTables() {
        ClothMaker x = new ClothMaker();
        Stage.crowd(x);
        DUE.same("11: all GATES", x.tables(), 20);
        for (int c = 12; c < 32; c++) {
            DUE.same("12: LETTERS of " + c, x.table(c, 0), c >= 18 && c < 24 ? 4 : 2);
        }
        DUE.same("12: LETTER 0 of 18", x.table(18, 2), 0);
        DUE.same("12: LETTER 3 of 18", x.table(18, 5), 3);
        DUE.same("12: LETTER 1 of 31", x.table(31, 3), 22);
        DUE.same("12: no LETTER 2 of 31", x.table(31, 4), ClothMaker.NONE);
    }

    /** 12: "its LETTERS 0 .. 3 (2 .. 5; NONE: there is none such)"; "its BITS are 16". */
    private static void lettersOneToFour() {
        int[] due = {0xAAAA, 0x8888, 0x8080, 0x8000};
        for (int n = 1; n <= 4; n++) {
            ClothMaker x = inputs(n);
            int last = n == 1 ? x.gate(0, 0, 0) : x.gate(0, 0, 2);
            for (int k = 2; k < n; k++) {
                last = x.gate(0, 2 * last, 2 * k);
            }
            x.out(last);
            x.tables();
            DUE.same("12: how many", x.table(last, 0), n);
            DUE.same("12: BITS", x.table(last, 1), due[n - 1]);
            for (int j = 0; j < 4; j++) {
                DUE.same("12: LETTER " + j, x.table(last, 2 + j), j < n ? j : ClothMaker.NONE);
            }
            DUE.same("12: no LETTER 4", x.table(last, 6), ClothMaker.NO);
            DUE.same("39: NONE is no refusal", x.status(ClothMaker.NO), 1);
        }
    }

    private static void bitsOfConstants() {
        ClothMaker x = inputs(1);
        x.gate(0, 0, 1);
        x.gate(1, 0, 1);
        x.gate(0, 1, 1);
        x.out(1);
        x.out(2);
        x.out(3);
        x.tables();
        DUE.same("12: no bit", x.table(1, 1), 0);
        DUE.same("12: all 16 bits", x.table(2, 1), 65535);
        DUE.same("12: the denial", x.table(3, 1), 0x5555);
    }

    private static void lastCellIsTable() {
        ClothMaker x = inputs(6);
        for (int k = 0; k < 6; k++) {
            x.keeper(false);
        }
        for (int c = 12; c < 30; c++) {
            x.gate(0, 0, 2);
        }
        x.gate(0, 0, 2);
        x.gate(1, 61, 22);
        x.out(31);
        x.source(11, 30);
        DUE.same("11: both", x.tables(), 2);
        DUE.same("12: of three", x.table(31, 0), 3);
        DUE.same("12: INPUT 0", x.table(31, 2), 0);
        DUE.same("12: KEEPER 11", x.table(31, 4), 11);
        DUE.same("12: denied, or KEEPER 11", x.table(31, 1), 0xF7F7);
        DUE.same("9: its CONE", x.cut(31, 0), 1 | 2 | 1 << 11);
    }
}
