/** Promises 35 to 39: THE ROW missing, of one, of most; copies up to its end; each count. */
public final class EdgesRowsTest {
    private static final Due DUE = new Due("EdgesRowsTest");

    public static void main(String[] args) {
        missingAtFirst();
        laysAsItStands();
        rowOfOne();
        rowOfMost();
        tearsOnce();
        copiesUpToTheEnd();
        copiesOfEachLength();
        statusOfEach();
        statusCountsOn();
        answersThatAreNoRefusals();
        DUE.end();
    }

    /** 36: "at first it is missing". */
    private static void missingAtFirst() {
        ClothMaker x = Stage.WRITTEN.make();
        DUE.same("37: missing, FRAMES or not", x.row(0), ClothMaker.MISSING);
        DUE.same("38: missing", x.copy(0, 0, 0), ClothMaker.MISSING);
        DUE.same("36: it was not there", x.tear(), 0);
        DUE.same("36: nor now", x.tear(), 0);
        DUE.same("35: now it is", x.lay(0), 8);
        DUE.same("36: it was there", x.tear(), 1);
    }

    /** 35: bent bytes are laid as they are; bytes that are bent later are not. */
    private static void laysAsItStands() {
        ClothMaker x = Stage.WRITTEN.make();
        x.bend(0, 2, 255);
        x.lay(0);
        DUE.same("37: as it stands", x.row(2), 254);
        x.bend(0, 2, 255);
        DUE.same("37: as it stood", x.row(2), 254);
        x.lay(0);
        DUE.same("37: laid anew", x.row(2), 1);
        x.copy(0, 2, 1);
        DUE.same("37: a copy", x.row(2), 0);
        DUE.same("28: not in the FRAME", x.octet(0, 2), 1);
        DUE.same("35: no TILE 6", x.lay(6), ClothMaker.BEYOND);
        DUE.same("37: a refused lay() leaves it", x.row(2), 0);
        x.input();
        DUE.same("35: FRAMES were taken away", x.lay(0), ClothMaker.MISSING);
        DUE.same("37: THE ROW was not", x.row(2), 0);
    }

    private static void rowOfOne() {
        ClothMaker x = Stage.WRITTEN.make();
        DUE.same("35: an empty TILE", x.lay(5), 1);
        DUE.same("37: its SUM", x.row(0), 255);
        DUE.same("37: no more", x.row(1), ClothMaker.BEYOND);
        DUE.same("37: none before", x.row(-1), ClothMaker.BEYOND);
        DUE.same("38: all of it", x.copy(0, 0, 1), 1);
        DUE.same("38: none, from its end", x.copy(1, 1, 0), 0);
        DUE.same("38: one, from its end", x.copy(1, 0, 1), ClothMaker.COPY);
        DUE.same("38: one, to its end", x.copy(0, 1, 1), ClothMaker.COPY);
        DUE.same("38: two", x.copy(0, 0, 2), ClothMaker.COPY);
        DUE.same("38: from behind its end", x.copy(2, 0, 0), ClothMaker.COPY);
    }

    /** 35: four TABLES of four LETTERS are the most that a TILE can have. */
    private static void rowOfMost() {
        ClothMaker x = new ClothMaker();
        Stage.crowd(x);
        x.tables();
        x.cloth(6, 2, 4, 4);
        x.set();
        for (int c = 18; c < 22; c++) {
            x.move(c, 11);
        }
        x.frames();
        DUE.same("35: 4 times 9, and a SUM", x.lay(11), 37);
        int sum = 255;
        for (int i = 0; i < 36; i++) {
            DUE.same("37: number " + i, x.row(i), x.octet(11, i));
            sum -= x.row(i);
        }
        DUE.same("37: the last is the SUM", x.row(36), Math.floorMod(sum, 256));
        DUE.same("37: no more", x.row(37), ClothMaker.BEYOND);
        DUE.same("38: all but one, to above", x.copy(0, 1, 36), 36);
        DUE.same("37: as they were", x.row(36), x.octet(11, 35));
        DUE.same("37: the first twice", x.row(1), 18);
        DUE.same("38: all", x.copy(0, 0, 37), 37);
        DUE.same("38: one too many", x.copy(0, 0, 38), ClothMaker.COPY);
    }

    /** 36: "1 if it was there, else 0". */
    private static void tearsOnce() {
        ClothMaker x = Stage.LAID.make();
        DUE.same("36: it was there", x.tear(), 1);
        DUE.same("36: it is not", x.tear(), 0);
        DUE.same("37: missing", x.row(0), ClothMaker.MISSING);
        DUE.same("38: missing", x.copy(0, 0, 1), ClothMaker.MISSING);
        DUE.same("28: the FRAME is there", x.octet(0, 3), 4);
        DUE.same("35: laid again", x.lay(0), 8);
        DUE.same("37: there again", x.row(3), 4);
    }

    /** 38: "i + n or j + n above how many there are": just so many are not above. */
    private static void copiesUpToTheEnd() {
        ClothMaker x = Stage.LAID.make();
        DUE.same("38: i + n is 8", x.copy(5, 0, 3), 3);
        DUE.same("38: i + n is 9", x.copy(6, 0, 3), ClothMaker.COPY);
        DUE.same("38: j + n is 8", x.copy(0, 5, 3), 3);
        DUE.same("38: j + n is 9", x.copy(0, 6, 3), ClothMaker.COPY);
        DUE.same("38: none at the end", x.copy(8, 8, 0), 0);
        DUE.same("38: none behind it", x.copy(9, 8, 0), ClothMaker.COPY);
        DUE.same("38: nor to behind it", x.copy(8, 9, 0), ClothMaker.COPY);
        DUE.same("38: none from the first", x.copy(0, 8, 0), 0);
        DUE.same("38: i is -1", x.copy(-1, 0, 1), ClothMaker.COPY);
        DUE.same("38: j is -1", x.copy(0, -1, 1), ClothMaker.COPY);
        DUE.same("38: n is -1", x.copy(0, 0, -1), ClothMaker.BELOW);
    }

    /** 38: "n numbers of THE ROW, from place i on, come to its place j on (as they were)". */
    private static void copiesOfEachLength() {
        int[] were = {0, 1, 1, 4, 1, 0, 0, 248};
        for (int n = 0; n <= 8; n++) {
            for (int i = 0; i + n <= 8; i++) {
                for (int j = 0; j + n <= 8; j++) {
                    ClothMaker x = Stage.LAID.make();
                    DUE.same("38: n", x.copy(i, j, n), n);
                    for (int k = 0; k < 8; k++) {
                        int due = k >= j && k < j + n ? were[k - j + i] : were[k];
                        DUE.same("38: copy(" + i + ", " + j + ", " + n + ")", x.row(k), due);
                    }
                }
            }
        }
    }

    /** 39: one refusal by each number, each counted for itself. */
    private static void statusOfEach() {
        String[] calls = {"octet(0, 0)", "out(5)", "lead(-1)", "cuts(0)", "copy(0, 0, 9)",
            "told(4)", "move(0, 1)"};
        Stage[] stages = {Stage.SET, Stage.SET, Stage.SET, Stage.SET, Stage.LAID, Stage.SET, Stage.SET};
        for (int k = 0; k < 7; k++) {
            ClothMaker x = stages[k].make();
            int by = ClothMaker.MISSING - k;
            DUE.same("39: none yet", x.status(by), 0);
            DUE.same("39: " + calls[k], Calls.ask(x, calls[k]), by);
            for (int other = ClothMaker.FULL; other <= ClothMaker.MISSING; other++) {
                DUE.same("39: status(" + other + ")", x.status(other), other == by ? 1 : 0);
            }
        }
    }

    private static void statusCountsOn() {
        ClothMaker x = new ClothMaker();
        for (int k = 0; k < 250; k++) {
            x.set();
            DUE.same("39: how many", x.status(ClothMaker.MISSING), k + 1);
        }
        DUE.same("39: status() of -1", x.status(-1), ClothMaker.NO);
        DUE.same("39: is refused, too", x.status(ClothMaker.NO), 1);
        DUE.same("39: of -9", x.status(-9), ClothMaker.NO);
        DUE.same("39: is refused, too", x.status(ClothMaker.NO), 2);
    }

    /** 39: NONE, 0 and what is below 0 nowhere else. */
    private static void answersThatAreNoRefusals() {
        ClothMaker x = Stage.LAID.make();
        x.cell(1, 1);
        x.table(4, 5);
        x.lead(1);
        x.way(2, 0);
        x.way(0, 99);
        x.smooth(0, 1L);
        x.frames();
        x.check();
        x.told(3);
        x.start();
        x.tear();
        x.tear();
        for (int by = ClothMaker.FULL; by <= ClothMaker.MISSING; by++) {
            DUE.same("39: none of " + by, x.status(by), 0);
        }
    }
}
