/** Promises 16 to 18: clash, count, bars. */
public final class WholeTest {
    private static final Due DUE = new Due("WholeTest");
    private static final int NONE = -1, OUTSIDE = -1002, NOT = -1003;
    private static final int MIN = Integer.MIN_VALUE, MAX = Integer.MAX_VALUE;

    public static void main(String[] args) {
        twoRunsCross();
        coverParts();
        joinedRunsDoNotClash();
        hotDoesNotClash();
        runsOfOneTreeClash();
        theFirstClashIsTold();
        clashRefuses();
        countsAreTold();
        whatWasCutDoesNotCount();
        allNodesCount();
        countRefuses();
        barsOfOneSize();
        wholeBarsComeFirst();
        theFewestBars();
        tooManyPieces();
        barsRefuse();
        DUE.end();
    }

    /** A RUN along row 1 from 12 to 18, one down column 3 from 39 to 3; they meet in 15. */
    private static PipeHouse crossing(int secondSort) {
        PipeHouse x = new PipeHouse();
        x.main(12, 0);
        x.hang(0, 18, 1);
        x.main(3, secondSort);
        x.hang(2, 39, 1);
        return x;
    }

    private static void twoRunsCross() {
        PipeHouse x = crossing(0);
        clashIs(x, 1, 3, 15);
        DUE.is("count(5)", x.count(5), 1);
        x.cut(3);
        clashIs(x, NONE, NONE, NONE);
        DUE.is("count(5) after cut", x.count(5), 0);
    }

    private static void coverParts() {
        PipeHouse x = crossing(0);
        // In 15 the one lies at 3 steps, the other at 1: at SLOPE 10 they differ by 100.
        x.rule(1, 100);
        clashIs(x, NONE, NONE, NONE);
        x.rule(1, 101);
        clashIs(x, 1, 3, 15);
        x.rule(0, 11);
        clashIs(x, NONE, NONE, NONE);
        x.rule(0, 9);
        clashIs(x, 1, 3, 15);
        x.rule(1, 0);
        clashIs(x, NONE, NONE, NONE);
        PipeHouse y = new PipeHouse();
        y.main(12, 0);
        y.hang(0, 18, 1);
        y.main(12, 0);
        y.hang(2, 18, 1);
        y.rule(1, 0);
        clashIs(y, NONE, NONE, NONE);
        y.rule(1, 1);
        clashIs(y, 1, 3, 12);
    }

    private static void joinedRunsDoNotClash() {
        PipeHouse x = new PipeHouse();
        x.main(0, 0);
        x.hang(0, 5, 1);
        x.hang(0, 6, 1);
        x.hang(1, 0, 1);
        DUE.is("count(5): on the same node, or one on the other's; 2 and 3 meet", x.count(5), 1);
        // In 0 they are 500 apart, in 1 only 400.
        clashIs(x, 2, 3, 1);
        x.cut(3);
        DUE.is("count(5): both on the same node", x.count(5), 0);
    }

    private static void hotDoesNotClash() {
        PipeHouse x = crossing(1);
        clashIs(x, NONE, NONE, NONE);
        DUE.is("count(5): hot", x.count(5), 0);
        // The CELL of a MAIN is no RUN.
        PipeHouse y = new PipeHouse();
        y.main(12, 0);
        y.hang(0, 18, 1);
        y.main(15, 0);
        clashIs(y, NONE, NONE, NONE);
    }

    private static void runsOfOneTreeClash() {
        PipeHouse x = new PipeHouse();
        x.main(0, 0);
        x.hang(0, 4, 1);
        x.hang(1, 28, 1);
        x.hang(2, 24, 1);
        x.hang(3, 2, 1);
        // 4 goes 2, 1, 0, 12, 24; 1 goes 4 .. 0 beneath it by (12 - 2) and more steps.
        DUE.is("count(5) at cover 500", x.count(5), 0);
        x.rule(1, 501);
        DUE.is("run(4, 1)", x.run(4, 1), 1);
        DUE.is("level(4, 0)", x.level(4, 0), 700);
        DUE.is("level(1, 2)", x.level(1, 2), 100);
        DUE.is("level(4, 2)", x.level(4, 2), 600);
        DUE.is("count(5) at cover 501", x.count(5), 0);
        x.rule(1, 601);
        // In 2, 1 and 0 they are 600 apart: the least is told.
        clashIs(x, 1, 4, 0);
        DUE.is("count(5) at cover 601", x.count(5), 1);
    }

    private static void theFirstClashIsTold() {
        PipeHouse x = new PipeHouse();
        x.main(12, 0);
        x.main(3, 0);
        x.main(5, 0);
        x.hang(1, 39, 1);
        x.hang(2, 41, 1);
        x.hang(0, 18, 1);
        clashIs(x, 3, 5, 15);
        DUE.is("count(5): two pairs", x.count(5), 2);
        x.main(36, 0);
        x.hang(6, 42, 1);
        // 7 runs along row 3, over the own CELLS of 3 (39) and 4 (41).
        clashIs(x, 3, 5, 15);
        DUE.is("count(5): four pairs", x.count(5), 4);
        x.cut(5);
        x.main(36, 0);
        x.hang(5, 42, 1);
        clashIs(x, 3, 6, 39);
        PipeHouse y = new PipeHouse();
        y.main(12, 0);
        y.hang(0, 18, 1);
        y.main(3, 0);
        y.hang(2, 15, 1);
        // The other one's own CELL.
        clashIs(y, 1, 3, 15);
    }

    private static void clashRefuses() {
        PipeHouse x = crossing(0);
        DUE.is("clash(-1)", x.clash(-1), OUTSIDE);
        DUE.is("clash(3)", x.clash(3), OUTSIDE);
        DUE.is("clash(MIN)", x.clash(MIN), OUTSIDE);
        DUE.is("clash(MAX)", x.clash(MAX), OUTSIDE);
    }

    private static void countsAreTold() {
        PipeHouse x = crossing(0);
        x.main(100, 1);
        x.hang(4, 98, 1);
        x.hang(5, 86, 5);
        x.hang(3, 40, 0);
        x.units(0, 2);
        // 1 is 300 from its MAIN, 3 is 150, 0 is a MAIN; of 5 it takes 100 * 4 / 40, of 6 (400 + 200) / 200.
        int[] told = {8, 3, 0, 3, 2, 1, 300 + 150 + 100 + 50 + 50, 0, 10};
        countsAre(x, told);
        x.limit(0, 1);
        x.limit(1, 2);
        x.limit(2, 3);
        x.limit(3, 4);
        x.limit(4, 5);
        x.limit(5, 6);
        DUE.is("count(8) with other sizes: 100 * 36 / 40", x.count(8), 90);
        x.units(6, 6);
        DUE.is("count(2): one above the limits", x.count(2), 1);
        DUE.is("count(8): none has any", x.count(8), NONE);
        x.units(6, 7);
        DUE.is("count(2): two above the limits", x.count(2), 2);
    }

    private static void whatWasCutDoesNotCount() {
        PipeHouse x = crossing(0);
        x.main(100, 1);
        x.hang(4, 98, 1);
        x.main(60, 0);
        x.units(6, 1);
        int[] withSix = {7, 4, 0, 3, 2, 1, 550, 0, 2};
        countsAre(x, withSix);
        x.cut(6);
        int[] withFive = {6, 3, 0, 2, 1, 1, 550, 0, 2};
        countsAre(x, withFive);
        x.cut(5);
        int[] withFour = {5, 3, 0, 2, 1, 1, 450, 0, NONE};
        countsAre(x, withFour);
        x.cut(3);
        int[] withTwo = {3, 2, 0, 1, 0, 0, 300, 0, NONE};
        countsAre(x, withTwo);
        x.cut(1);
        int[] withNone = {1, 1, 0, 0, 0, 0, 0, 0, NONE};
        countsAre(x, withNone);
        DUE.is("bars(0, 3): all were cut", x.bars(0, 3), 0);
    }

    private static void allNodesCount() {
        PipeHouse x = new PipeHouse();
        for (int k = 0; k < 6; k++) {
            x.main(12 * k, 0);
            x.hang(4 * k, 12 * k + 3, 1);
            x.main(12 * k + 11, 1);
            x.hang(4 * k + 2, 12 * k + 10, 1);
        }
        int[] told = {24, 12, 0, 6, 6, 0, 6 * 150 + 6 * 50, 0, 1};
        countsAre(x, told);
        barsAre(x, 0, 12, 2, 0, 12);
        x.cut(23);
        x.hang(0, 72, 1);
        // 23 goes down column 0 over the five other MAINS' CELLS, nowhere 500 above their RUNS.
        told = new int[] {24, 12, 0, 7, 6, 5, 6 * 150 + 5 * 50 + 300, 0, 1};
        countsAre(x, told);
        x.cut(23);
        x.hang(20, 1, 1);
        // 23 goes 1, 0, 12 .. 60: in 1 and 0 it lies 500 above the RUN of 1, in 12 to 48 less than 500 above the others.
        told = new int[] {24, 12, 0, 7, 6, 4, 6 * 150 + 5 * 50 + 300, 1, 1};
        x.rule(0, 20);
        countsAre(x, told);
        clashIs(x, 5, 23, 12);
    }

    private static void countRefuses() {
        PipeHouse x = crossing(0);
        DUE.is("count(-1)", x.count(-1), OUTSIDE);
        DUE.is("count(9)", x.count(9), OUTSIDE);
        DUE.is("count(MIN)", x.count(MIN), OUTSIDE);
        DUE.is("count(MAX)", x.count(MAX), OUTSIDE);
    }

    private static void barsOfOneSize() {
        PipeHouse x = new PipeHouse();
        x.main(0, 0);
        x.hang(0, 4, 1);
        x.hang(0, 5, 3);
        x.main(143, 1);
        x.hang(3, 140, 2);
        x.hang(3, 137, 50);
        barsAre(x, 0, 2, 1, 250, 2);
        barsAre(x, 1, 1, 1, 350, 1);
        barsAre(x, 2, 0, 0, 0, 0);
        barsAre(x, 4, 1, 1, 300, 1);
        x.rule(3, 200);
        barsAre(x, 0, 2, 2, 50, 2);
    }

    private static void wholeBarsComeFirst() {
        PipeHouse x = new PipeHouse();
        x.main(0, 0);
        x.hang(0, 11, 1);
        barsAre(x, 0, 1, 1, 50, 1);
        x.rule(3, 550);
        barsAre(x, 0, 1, 1, 0, 1);
        x.rule(3, 549);
        barsAre(x, 0, 1, 2, 548, 1);
        x.rule(3, 275);
        barsAre(x, 0, 0, 2, 0, 1);
        x.rule(3, 110);
        barsAre(x, 0, 0, 5, 0, 1);
        x.rule(3, 100);
        barsAre(x, 0, 1, 6, 50, 1);
        x.hang(0, 3, 1);
        barsAre(x, 0, 2, 7, 0, 2);
        x.rule(3, 50);
        barsAre(x, 0, 0, 14, 0, 2);
    }

    private static void theFewestBars() {
        PipeHouse x = new PipeHouse();
        x.main(0, 0);
        x.rule(3, 500);
        // 300 + 200, 150 + 150 + 100 + 100.
        hangSteps(x, 6, 4, 3, 3, 2, 2);
        barsAre(x, 0, 6, 2, 0, 6);
        PipeHouse y = new PipeHouse();
        y.main(0, 0);
        y.rule(3, 500);
        // 200, 200, 150, 150, 150, 150: greatest first 200 + 200, 150 * 3, 150; 200 + 150 + 150 twice is less.
        hangSteps(y, 4, 4, 3, 3, 3, 3);
        barsAre(y, 0, 6, 2, 0, 6);
        hangSteps(y, 1);
        barsAre(y, 0, 7, 3, 450, 7);
        PipeHouse z = new PipeHouse();
        z.main(0, 0);
        z.rule(3, 599);
        // Each above half of a BAR.
        hangSteps(z, 6, 6, 6, 7);
        barsAre(z, 0, 4, 4, 4 * 599 - 1250, 4);
        hangSteps(z, 6, 6, 6, 7, 6, 6, 6, 7);
        barsAre(z, 0, 12, 12, 12 * 599 - 3750, 12);
    }

    private static void tooManyPieces() {
        PipeHouse x = new PipeHouse();
        x.main(0, 0);
        hangSteps(x, 1, 2, 3, 4, 5, 6, 7, 8, 9, 10, 11, 11);
        // 50 .. 550, and 550 once more: 3850 in all.
        barsAre(x, 0, 12, 7, 7 * 600 - 3850, 12);
        hangSteps(x, 1);
        barsAre(x, 0, 13, NOT, NOT, 13);
        x.units(13, 3);
        barsAre(x, 0, 12, 7, 7 * 600 - 3850, 12);
        x.units(13, 1);
        x.rule(3, 550);
        barsAre(x, 0, 13, NOT, NOT, 13);
        x.rule(3, 275);
        // Of 550 nothing is left, of each other RUN something.
        barsAre(x, 0, 11, 15, 15 * 275 - 3900, 13);
        for (int n = 14; n < 24; n++) {
            hangSteps(x, 1);
        }
        barsAre(x, 0, 21, NOT, NOT, 23);
    }

    private static void barsRefuse() {
        PipeHouse x = new PipeHouse();
        DUE.is("bars(-1, 0)", x.bars(-1, 0), OUTSIDE);
        DUE.is("bars(6, 0)", x.bars(6, 0), OUTSIDE);
        DUE.is("bars(0, -1)", x.bars(0, -1), OUTSIDE);
        DUE.is("bars(0, 4)", x.bars(0, 4), OUTSIDE);
        DUE.is("bars(MIN, MAX)", x.bars(MIN, MAX), OUTSIDE);
        DUE.is("bars(MAX, 1)", x.bars(MAX, 1), OUTSIDE);
    }

    /** Hangs NODES with one UNIT each on node 0 in cell 0, along the first row, so many steps away. */
    private static void hangSteps(PipeHouse x, int... steps) {
        for (int step : steps) {
            x.hang(0, step, 1);
        }
    }

    private static void countsAre(PipeHouse x, int... told) {
        for (int what = 0; what < told.length; what++) {
            DUE.is("count(" + what + ") of " + told[0], x.count(what), told[what]);
        }
    }

    private static void clashIs(PipeHouse x, int... told) {
        for (int what = 0; what < told.length; what++) {
            DUE.is("clash(" + what + ")", x.clash(what), told[what]);
        }
    }

    private static void barsAre(PipeHouse x, int s, int... told) {
        for (int what = 0; what < told.length; what++) {
            DUE.is("bars(" + s + ", " + what + ")", x.bars(s, what), told[what]);
        }
    }
}
