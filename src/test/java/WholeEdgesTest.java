/** Sentence by sentence, the boundary cases of the document's terms 4 (HOT) and 5 (BARS), promises 17 and 18, and the last call. */
public final class WholeEdgesTest {
    private static final Due DUE = new Due("WholeEdgesTest");
    private static final int NONE = -1, UNKNOWN = -1001, OUTSIDE = -1002, NOT = -1003;
    private static final int MIN = Integer.MIN_VALUE, MAX = Integer.MAX_VALUE;
    private static final int BAR = 3, CALLS = 512;

    public static void main(String[] args) {
        theConstants();
        secondsAreCutTowards0();
        secondsOfEachSize();
        secondsOfAllRunsToItsMain();
        noSecondsWithoutUnits();
        noSecondsWithoutASize();
        theMostSeconds();
        theGreatestSeconds();
        barsWithoutRuns();
        aRunAsLongAsABar();
        whatIsLeftIfItIsNot0();
        theLeastBar();
        theGreatestBar();
        noBarHasMoreThanABar();
        runsOfBothSorts();
        runsOfOneSize();
        twelvePieces();
        piecesAreNotRuns();
        moreThan12();
        theFewestBars();
        wasteIsOfTheBarsOfPieces();
        barsAreRefused();
        countTellsFrom0To8();
        countOfAnEmptyHouse();
        countOfAFullHouse();
        countOfRunsWithoutASize();
        countOfAllRuns();
        theLastCall();
        DUE.end();
    }

    private static void theConstants() {
        DUE.sentence("NONE = -1, UNKNOWN = -1001, OUTSIDE = -1002, NOT = -1003, FULL = -1004");
        DUE.is("NONE", PipeHouse.NONE, -1);
        DUE.is("UNKNOWN", PipeHouse.UNKNOWN, -1001);
        DUE.is("OUTSIDE", PipeHouse.OUTSIDE, -1002);
        DUE.is("NOT", PipeHouse.NOT, -1003);
        DUE.is("FULL", PipeHouse.FULL, -1004);
    }

    private static void secondsAreCutTowards0() {
        DUE.sentence("/ cuts towards 0");
        PipeHouse x = Scenes.comb(1, 4);
        int[] seconds = {50 / 40, 100 / 40, 150 / 40, 200 / 40};
        for (int n = 1; n <= 4; n++) {
            DUE.is("node(" + n + ", 11)", x.node(n, 11), seconds[n - 1]);
        }
        x.units(3, 2);
        DUE.is("node(3, 11): 150 / 80", x.node(3, 11), 1);
        x.units(1, 2);
        DUE.is("node(1, 11): 50 / 80", x.node(1, 11), 0);
        x.units(4, 5);
        DUE.is("node(4, 11): 800 / 200", x.node(4, 11), 4);
        x.units(4, 6);
        DUE.is("node(4, 11): 800 / 240", x.node(4, 11), 3);
    }

    private static void secondsOfEachSize() {
        DUE.sentence("a RUN holds LENGTH times (SIZE and 1) times (SIZE and 1) drops");
        PipeHouse x = new PipeHouse();
        x.main(0, 1);
        x.hang(0, 8, 1);
        x.hang(1, 9, 0);
        x.hang(1, 10, 0);
        x.hang(1, 11, 0);
        // 400 * w * w / 40
        int[] others = {0, 3, 7, 13, 25, 61};
        for (int s = 0; s < others.length; s++) {
            for (int n = 2; n < 5; n++) {
                x.units(n, Math.max(0, Math.min(50, others[s] - 50 * (n - 2))));
            }
            DUE.is("node(1, 8)", x.node(1, 8), s);
            DUE.is("node(1, 11) in size " + s, x.node(1, 11), 10 * (s + 1) * (s + 1));
        }
    }

    private static void secondsOfAllRunsToItsMain() {
        DUE.sentence("SECONDS of a NODE: the drops of all RUNS from it to its MAIN / its FLOW, where FLOW is 40 times its own UNITS");
        PipeHouse x = new PipeHouse();
        x.main(0, 1);
        x.hang(0, 4, 1);
        x.hang(1, 8, 1);
        x.hang(2, 11, 1);
        x.main(0, 1);
        x.hang(4, 11, 1);
        // The first two are 1 and 0 wide: 200 * 4, 200 * 1, and 150 * 1.
        DUE.is("node(1, 11)", x.node(1, 11), 800 / 40);
        DUE.is("node(2, 11)", x.node(2, 11), 1000 / 40);
        DUE.is("node(3, 11)", x.node(3, 11), 1150 / 40);
        DUE.is("node(5, 11): another tree", x.node(5, 11), 550 / 40);
        x.units(2, 50);
        // Now they are 4, 4 and 0 wide; of its own UNITS alone is the FLOW.
        DUE.is("node(1, 11) with 50 behind it", x.node(1, 11), 200 * 25 / 40);
        DUE.is("node(2, 11) with 50", x.node(2, 11), 400 * 25 / 2000);
        DUE.is("node(3, 11) with 50 ahead of it", x.node(3, 11), (400 * 25 + 150) / 40);
    }

    private static void noSecondsWithoutUnits() {
        DUE.sentence("NONE with 0 UNITS");
        PipeHouse x = new PipeHouse();
        x.main(0, 1);
        x.hang(0, 4, 0);
        x.hang(1, 8, 1);
        DUE.is("node(1, 11) with 0", x.node(1, 11), NONE);
        DUE.is("node(2, 11) with 1", x.node(2, 11), 10);
        x.units(1, 1);
        DUE.is("node(1, 11) with 1", x.node(1, 11), 5);
        x.units(2, 0);
        DUE.is("node(2, 11) with 0", x.node(2, 11), NONE);
    }

    private static void noSecondsWithoutASize() {
        DUE.sentence("or if a SIZE is NONE");
        PipeHouse x = new PipeHouse();
        Scenes.tightLimits(x);
        x.main(0, 1);
        x.hang(0, 1, 1);
        x.hang(1, 2, 1);
        x.hang(1, 13, 4);
        x.hang(0, 12, 1);
        DUE.is("node(1, 8)", x.node(1, 8), 5);
        DUE.is("node(2, 11)", x.node(2, 11), 50 * 37 / 40);
        x.units(3, 5);
        DUE.is("node(1, 11): its own", x.node(1, 11), NONE);
        DUE.is("node(2, 11): one on the way", x.node(2, 11), NONE);
        DUE.is("node(3, 11): one on the way", x.node(3, 11), NONE);
        DUE.is("node(4, 11): one beside it", x.node(4, 11), 1);
        DUE.is("count(8): some have", x.count(8), 1);
        x.units(4, 7);
        DUE.is("count(8): none has", x.count(8), NONE);
    }

    private static void theMostSeconds() {
        DUE.sentence("8 the most SECONDS of any NODE (NONE: none has any)");
        PipeHouse x = new PipeHouse();
        DUE.is("no node", x.count(8), NONE);
        x.main(0, 1);
        x.units(0, 5);
        DUE.is("a main alone", x.count(8), NONE);
        x.main(0, 0);
        x.hang(1, 11, 1);
        DUE.is("a drain", x.count(8), NONE);
        x.hang(0, 11, 0);
        DUE.is("no units", x.count(8), NONE);
        x.hang(0, 1, 2);
        DUE.is("0 is more than none", x.count(8), 0);
        x.hang(0, 4, 1);
        x.hang(0, 2, 1);
        DUE.is("the second of three", x.count(8), 5);
        x.units(3, 1);
        x.units(2, 1);
        DUE.is("the first of four", x.count(8), 13);
    }

    private static void theGreatestSeconds() {
        DUE.sentence("SECONDS of a NODE: the drops of all RUNS from it to its MAIN / its FLOW");
        PipeHouse x = Scenes.snake();
        x.limit(4, 25);
        x.main(0, 1);
        for (int n = 1; n < 24; n++) {
            x.hang(n - 1, n % 2 == 1 ? 132 : 0, n == 22 ? 1 : n == 23 ? 50 : 0);
        }
        DUE.is("node(22, 11)", x.node(22, 11), 22 * 3850 * 36 / 40);
        DUE.is("node(23, 11)", x.node(23, 11), 23 * 3850 * 36 / 2000);
        DUE.is("count(8)", x.count(8), 22 * 3850 * 36 / 40);
    }

    private static void barsWithoutRuns() {
        DUE.sentence("For SIZE s: what = 0 PIECES, 1 the fewest BARS (with whole ones), 2 WASTE, 3 RUNS of that SIZE.");
        PipeHouse x = new PipeHouse();
        for (int s = 0; s < 6; s++) {
            barsAre(x, s, 0, 0, 0, 0);
        }
        x.main(0, 0);
        x.main(5, 1);
        for (int s = 0; s < 6; s++) {
            barsAre(x, s, 0, 0, 0, 0);
        }
    }

    private static void aRunAsLongAsABar() {
        DUE.sentence("of a RUN that is longer than BAR as many whole bars as go into it are taken away first, and count");
        PipeHouse x = new PipeHouse();
        x.main(0, 0);
        x.hang(0, 6, 1);
        x.rule(BAR, 301);
        barsAre(x, 0, 1, 1, 1, 1);
        x.rule(BAR, 300);
        barsAre(x, 0, 1, 1, 0, 1);
        x.rule(BAR, 299);
        barsAre(x, 0, 1, 2, 298, 1);
        x.rule(BAR, 151);
        barsAre(x, 0, 1, 2, 2, 1);
        x.rule(BAR, 101);
        barsAre(x, 0, 1, 3, 3, 1);
        x.rule(BAR, 99);
        barsAre(x, 0, 1, 4, 96, 1);
    }

    private static void whatIsLeftIfItIsNot0() {
        DUE.sentence("what is left of it, if it is not 0, is the PIECE");
        PipeHouse x = new PipeHouse();
        x.main(0, 0);
        x.hang(0, 6, 1);
        x.rule(BAR, 150);
        barsAre(x, 0, 0, 2, 0, 1);
        x.rule(BAR, 100);
        barsAre(x, 0, 0, 3, 0, 1);
        x.rule(BAR, 200);
        barsAre(x, 0, 1, 2, 100, 1);
        x.rule(BAR, 149);
        barsAre(x, 0, 1, 3, 147, 1);
        x.hang(0, 6, 1);
        barsAre(x, 0, 2, 5, 145, 2);
    }

    private static void theLeastBar() {
        DUE.sentence("BARS of a length BAR (50 .. 2000; 600 at first)");
        PipeHouse x = Scenes.comb(0, 13);
        x.rule(BAR, 50);
        // 11 along the row; 12 and 13 lie in the next one, 1 and 2 steps away.
        barsAre(x, 0, 2, 66 + 1 + 2, 0, 13);
        x.rule(BAR, 49);
        barsAre(x, 0, 2, 66 + 1 + 2, 0, 13);
    }

    private static void theGreatestBar() {
        DUE.sentence("BARS of a length BAR (50 .. 2000; 600 at first)");
        PipeHouse x = Scenes.snake();
        x.rule(BAR, 2000);
        x.main(0, 1);
        x.hang(0, Scenes.snakeCell(40), 1);
        barsAre(x, 0, 1, 1, 0, 1);
        x.hang(0, Scenes.snakeCell(39), 1);
        barsAre(x, 0, 2, 2, 50, 2);
        x.hang(0, Scenes.snakeCell(41), 1);
        barsAre(x, 0, 3, 3, 0, 3);
        x.hang(0, Scenes.snakeCell(77), 1);
        barsAre(x, 0, 4, 5, 150, 4);
    }

    private static void noBarHasMoreThanABar() {
        DUE.sentence("The fewest BARS: no BAR has PIECES above BAR in all.");
        PipeHouse x = new PipeHouse();
        x.main(0, 0);
        x.hang(0, 6, 1);
        x.hang(0, 5, 1);
        x.hang(0, 1, 1);
        barsAre(x, 0, 3, 1, 0, 3);
        x.rule(BAR, 599);
        barsAre(x, 0, 3, 2, 598, 3);
        x.rule(BAR, 601);
        barsAre(x, 0, 3, 1, 1, 3);
    }

    private static void runsOfBothSorts() {
        DUE.sentence("the LENGTHS of all RUNS of one SIZE (of both SORTS)");
        PipeHouse x = Scenes.comb(0, 1);
        x.main(0, 1);
        x.hang(2, 3, 1);
        barsAre(x, 0, 2, 1, 400, 2);
        x.cut(2);
        barsAre(x, 0, 1, 1, 550, 1);
    }

    private static void runsOfOneSize() {
        DUE.sentence("the LENGTHS of all RUNS of one SIZE");
        PipeHouse x = new PipeHouse();
        x.main(0, 0);
        int[] units = {2, 6, 12, 24, 50};
        for (int s = 0; s < units.length; s++) {
            x.hang(0, s + 1, units[s]);
        }
        x.main(0, 0);
        x.hang(6, 11, 11);
        x.hang(7, 0, 50);
        for (int s = 0; s < 4; s++) {
            barsAre(x, s, 1, 1, 600 - 50 * (s + 1), 1);
        }
        barsAre(x, 4, 2, 2, 400, 2);
        barsAre(x, 5, 1, 1, 50, 1);
        x.limit(5, 61);
        barsAre(x, 5, 1, 1, 50, 1);
        x.units(7, 12);
        // Of no SIZE: in the BARS of none.
        barsAre(x, 5, 0, 0, 0, 0);
        barsAre(x, 4, 2, 2, 400, 2);
    }

    private static void twelvePieces() {
        DUE.sentence("(With more than 12 PIECES it is not told: NOT.)");
        PipeHouse x = Scenes.comb(0, 11);
        barsAre(x, 0, 11, 6, 300, 11);
        x.hang(0, 1, 1);
        barsAre(x, 0, 12, 6, 250, 12);
        x.hang(0, 1, 1);
        barsAre(x, 0, 13, NOT, NOT, 13);
        x.units(13, 3);
        barsAre(x, 0, 12, 6, 250, 12);
        barsAre(x, 1, 1, 1, 550, 1);
    }

    private static void piecesAreNotRuns() {
        DUE.sentence("(With more than 12 PIECES it is not told: NOT.)");
        PipeHouse x = new PipeHouse();
        x.main(0, 0);
        for (int n = 1; n < 24; n++) {
            x.hang(0, n <= 11 ? 4 : 6, 1);
        }
        x.rule(BAR, 100);
        barsAre(x, 0, 0, 11 * 2 + 12 * 3, 0, 23);
        x.rule(BAR, 150);
        // Of each of 11 RUNS 50 are left: three in a BAR.
        barsAre(x, 0, 11, 11 + 12 * 2 + 4, 50, 23);
        x.rule(BAR, 200);
        // The 11 are as long as a BAR.
        barsAre(x, 0, 23, NOT, NOT, 23);
        x.cut(13);
        barsAre(x, 0, 12, 11 + 1 + 1, 100, 12);
    }

    private static void moreThan12() {
        DUE.sentence("NOT (of 1, 2): more than 12 PIECES.");
        PipeHouse x = Scenes.comb(1, 23);
        DUE.is("bars(0, 0)", x.bars(0, 0), 23);
        DUE.is("bars(0, 1)", x.bars(0, 1), NOT);
        DUE.is("bars(0, 2)", x.bars(0, 2), NOT);
        DUE.is("bars(0, 3)", x.bars(0, 3), 23);
        barsAre(x, 1, 0, 0, 0, 0);
    }

    private static void theFewestBars() {
        DUE.sentence("The fewest BARS: no BAR has PIECES above BAR in all.");
        // In BARS of 10 steps 4 3 3 and 4 3 3; with the greatest first it would take a third one.
        fewestAre(500, 2, 4, 4, 3, 3, 3, 3);
        // In BARS of 20 steps 8 6 6 four times; with the greatest first it would take a fifth one.
        fewestAre(1000, 4, 8, 8, 6, 6, 6, 6, 8, 8, 6, 6, 6, 6);
        // In BARS of 11 steps, 10 1 and 9 2 and .. and 6 5, and the 11 alone.
        fewestAre(550, 6, 1, 2, 3, 4, 5, 6, 7, 8, 9, 10, 11);
        // None beside another: each is above half of a BAR.
        fewestAre(599, 12, 6, 6, 6, 6, 6, 6, 7, 7, 7, 8, 9, 10);
        // All in one.
        fewestAre(600, 1, 1, 1, 1, 1, 1, 1, 1, 1, 1, 1, 1, 1);
        fewestAre(599, 2, 1, 1, 1, 1, 1, 1, 1, 1, 1, 1, 1, 1);
        // One each, just so.
        fewestAre(50, 12, 1, 1, 1, 1, 1, 1, 1, 1, 1, 1, 1, 1);
        fewestAre(99, 12, 1, 1, 1, 1, 1, 1, 1, 1, 1, 1, 1, 1);
        fewestAre(100, 6, 1, 1, 1, 1, 1, 1, 1, 1, 1, 1, 1, 1);
    }

    /** Runs of so many steps, none longer than a bar. */
    private static void fewestAre(int bar, int fewest, int... steps) {
        PipeHouse x = new PipeHouse();
        x.main(0, 0);
        x.rule(BAR, bar);
        int sum = 0;
        for (int step : steps) {
            x.hang(0, step, 1);
            sum += step;
        }
        barsAre(x, 0, steps.length, fewest, fewest * bar - 50 * sum, steps.length);
    }

    private static void wasteIsOfTheBarsOfPieces() {
        DUE.sentence("WASTE: what is left of these BARS in all.");
        PipeHouse x = new PipeHouse();
        x.main(0, 0);
        x.hang(0, 11, 1);
        x.rule(BAR, 110);
        barsAre(x, 0, 0, 5, 0, 1);
        x.rule(BAR, 109);
        // Five whole ones, and of the sixth 5 are taken.
        barsAre(x, 0, 1, 6, 104, 1);
        x.hang(0, 2, 1);
        barsAre(x, 0, 2, 6, 4, 2);
        x.hang(0, 2, 1);
        barsAre(x, 0, 3, 7, 4 + 9, 3);
    }

    private static void barsAreRefused() {
        DUE.sentence("OUTSIDE; NOT (of 1, 2): more than 12 PIECES.");
        for (PipeHouse x : new PipeHouse[] {new PipeHouse(), Scenes.comb(0, 13)}) {
            for (int s : new int[] {-1, 6, MIN, MAX}) {
                for (int what = 0; what <= 3; what++) {
                    DUE.is("bars(" + s + ", " + what + ")", x.bars(s, what), OUTSIDE);
                }
            }
            for (int what : new int[] {-1, 4, MIN, MAX}) {
                DUE.is("bars(0, " + what + ")", x.bars(0, what), OUTSIDE);
                DUE.is("bars(5, " + what + ")", x.bars(5, what), OUTSIDE);
            }
            DUE.is("bars(5, 3)", x.bars(5, 3), 0);
        }
    }

    private static void countTellsFrom0To8() {
        DUE.sentence("How many: 0 NODES, .. 8 the most SECONDS of any NODE (NONE: none has any). OUTSIDE.");
        PipeHouse x = Scenes.comb(1, 2);
        DUE.is("count(-1)", x.count(-1), OUTSIDE);
        DUE.is("count(0): the least", x.count(0), 3);
        DUE.is("count(8): the greatest", x.count(8), 2);
        DUE.is("count(9)", x.count(9), OUTSIDE);
        DUE.is("count(MIN)", x.count(MIN), OUTSIDE);
        DUE.is("count(MAX)", x.count(MAX), OUTSIDE);
    }

    private static void countOfAnEmptyHouse() {
        DUE.sentence("No walls, no NODES, all as at first.");
        PipeHouse x = new PipeHouse();
        countsAre(x, 0, 0, 0, 0, 0, 0, 0, 0, NONE);
        x.main(0, 0);
        countsAre(x, 1, 1, 0, 0, 0, 0, 0, 0, NONE);
        x.cut(0);
        countsAre(x, 0, 0, 0, 0, 0, 0, 0, 0, NONE);
    }

    private static void countOfAFullHouse() {
        DUE.sentence("NODES (24 at most)");
        PipeHouse x = new PipeHouse();
        for (int k = 0; k < 12; k++) {
            x.main(0, 0);
            x.hang(2 * k, 13, 1);
        }
        // All twelve RUNS go 13, 1, 0 side by side: each two of them clash.
        countsAre(x, 24, 12, 0, 12, 12, 66, 1200, 12, NONE);
        x.cut(0);
        for (int n = 0; n < 24; n++) {
            x.main(n, 1);
        }
        countsAre(x, 24, 24, 0, 0, 0, 0, 0, 0, NONE);
    }

    private static void countOfRunsWithoutASize() {
        DUE.sentence("2 RUNS whose SIZE is NONE");
        PipeHouse x = Scenes.comb(0, 2);
        x.main(0, 1);
        x.hang(3, 5, 6);
        Scenes.tightLimits(x);
        DUE.is("count(2)", x.count(2), 0);
        x.units(4, 7);
        DUE.is("count(2): not its main", x.count(2), 1);
        x.units(1, 7);
        DUE.is("count(2): of both sorts", x.count(2), 2);
    }

    private static void countOfAllRuns() {
        DUE.sentence("6 LENGTH of all RUNS, 7 TURNS of all");
        PipeHouse x = new PipeHouse();
        x.main(65, 0);
        countsAre(x, 1, 1, 0, 0, 0, 0, 0, 0, NONE);
        x.hang(0, 66, 0);
        countsAre(x, 2, 1, 0, 0, 0, 0, 50, 0, NONE);
        x.hang(0, 78, 0);
        countsAre(x, 3, 1, 0, 0, 0, 0, 150, 1, NONE);
        x.main(65, 1);
        x.hang(3, 78, 0);
        countsAre(x, 5, 2, 0, 0, 0, 0, 250, 2, NONE);
    }

    private static void theLastCall() {
        DUE.sentence("An object is used for at most 512 calls after it has been made");
        int[] due = {6, 22, UNKNOWN, 12, 0, 67 * 50};
        for (int kind = 0; kind < due.length; kind++) {
            PipeHouse x = Scenes.comb(0, 12);
            for (int call = 1 + 12 + 1; call < CALLS; call++) {
                ask(x, kind);
            }
            DUE.is("the 512th call, " + kind, ask(x, kind), due[kind]);
        }
    }

    private static int ask(PipeHouse x, int kind) {
        switch (kind) {
            case 0: return x.bars(0, 1);
            case 1: return x.cheapest(0, 143);
            case 2: return x.cut(13);
            case 3: return x.node(0, 5);
            case 4: return x.lay();
            default: return x.count(6);
        }
    }

    private static void barsAre(PipeHouse x, int s, int... told) {
        for (int what = 0; what < told.length; what++) {
            DUE.is("bars(" + s + ", " + what + ")", x.bars(s, what), told[what]);
        }
    }

    private static void countsAre(PipeHouse x, int... told) {
        for (int what = 0; what < told.length; what++) {
            DUE.is("count(" + what + ") of " + told[0], x.count(what), told[what]);
        }
    }
}
