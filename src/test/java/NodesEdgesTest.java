/** Sentence by sentence, the boundary cases of the document's terms 2 (NODES) and promises 5 to 9, 13 and 14. */
public final class NodesEdgesTest {
    private static final Due DUE = new Due("NodesEdgesTest");
    private static final int NONE = -1, UNKNOWN = -1001, OUTSIDE = -1002, NOT = -1003, FULL = -1004;
    private static final int MIN = Integer.MIN_VALUE, MAX = Integer.MAX_VALUE;
    private static final int MOST = 24;

    public static void main(String[] args) {
        atMost24Mains();
        atMost24Hung();
        roomAfterACut();
        nodesAreKnownFrom0On();
        mainsHangOnNone();
        nodesHangOnNodesAhead();
        aRunIsByThePricesWhenHung();
        sortsAre0And1();
        theSortIsTheMainsOne();
        unitsFrom0To50WhenHung();
        unitsFrom0To50WhenTold();
        unitsTellWhatTheyWere();
        aLoadOfNoUnits();
        aLoadAtAnyDepth();
        theGreatestLoad();
        lengths();
        turnsOfShortAndStraightRuns();
        turnsAtEachCell();
        theLimitsOfTheSizes();
        aSizeIsNotLessThanBehindIt();
        noSizeAboveTheLast();
        noSizeIfOneBehindHasNone();
        theSizeOfAMain();
        mainIsRefused();
        hangIntoItsOwnCell();
        hangWithoutAWay();
        airedFromNowOnOrNot();
        airIsNotForMainsAndHot();
        cutTakesAllFromNOn();
        cutTakesTheLastAndTheFirst();
        whatWasCutIsForgotten();
        nodeTellsFrom0To11();
        nodeTellsOfAMain();
        runBeginsWithItsOwnCell();
        runEnds();
        DUE.end();
    }

    private static void atMost24Mains() {
        DUE.sentence("NODES (24 at most)");
        PipeHouse x = new PipeHouse();
        for (int n = 0; n < MOST; n++) {
            DUE.is("main " + n, x.main(143, n % 2), n);
        }
        DUE.is("the 25th: main(0, 0)", x.main(0, 0), FULL);
        DUE.is("the 25th: main(0, 1)", x.main(0, 1), FULL);
        DUE.is("the 25th: hang(23, 0, 1)", x.hang(23, 0, 1), FULL);
        DUE.is("count(0)", x.count(0), MOST);
        DUE.is("node(23, 0): the last", x.node(23, 0), 143);
        DUE.is("node(24, 0)", x.node(24, 0), UNKNOWN);
    }

    private static void atMost24Hung() {
        DUE.sentence("NODES (24 at most)");
        PipeHouse x = new PipeHouse();
        x.main(0, 0);
        for (int n = 1; n < MOST; n++) {
            DUE.is("hang " + n, x.hang(0, n, 1), n);
        }
        DUE.is("the 25th: hang(0, 1, 1)", x.hang(0, 1, 1), FULL);
        DUE.is("the 25th: hang(23, 1, 1)", x.hang(23, 1, 1), FULL);
        DUE.is("the 25th: main(1, 0)", x.main(1, 0), FULL);
        DUE.is("count(0)", x.count(0), MOST);
        DUE.is("node(0, 5)", x.node(0, 5), MOST - 1);
        DUE.is("run(23, 0)", x.run(23, 0), 23);
    }

    private static void roomAfterACut() {
        DUE.sentence("NODES (24 at most)");
        PipeHouse x = Scenes.comb(0, MOST - 1);
        DUE.is("hang(0, 50, 1) when full", x.hang(0, 50, 1), FULL);
        DUE.is("cut(23)", x.cut(23), 1);
        DUE.is("hang(0, 50, 1) then", x.hang(0, 50, 1), 23);
        DUE.is("hang(0, 50, 1) when full again", x.hang(0, 50, 1), FULL);
        DUE.is("cut(22)", x.cut(22), 2);
        DUE.is("main(5, 1)", x.main(5, 1), 22);
        DUE.is("main(5, 1)", x.main(5, 1), 23);
        DUE.is("main(5, 1) when full again", x.main(5, 1), FULL);
        DUE.is("cut(0)", x.cut(0), MOST);
        DUE.is("main(5, 1): the first again", x.main(5, 1), 0);
    }

    private static void nodesAreKnownFrom0On() {
        DUE.sentence("what has a number has it from 0 on");
        PipeHouse x = Scenes.comb(0, 2);
        DUE.is("node(0, 0)", x.node(0, 0), 0);
        DUE.is("node(2, 0): the last", x.node(2, 0), 2);
        for (int n : new int[] {-1, 3, MOST, MIN, MAX}) {
            DUE.is("node(" + n + ", 0)", x.node(n, 0), UNKNOWN);
            DUE.is("hang(" + n + ", 5, 1)", x.hang(n, 5, 1), UNKNOWN);
            DUE.is("units(" + n + ", 1)", x.units(n, 1), UNKNOWN);
            DUE.is("air(" + n + ", true)", x.air(n, true), UNKNOWN);
            DUE.is("cut(" + n + ")", x.cut(n), UNKNOWN);
            DUE.is("run(" + n + ", 0)", x.run(n, 0), UNKNOWN);
            DUE.is("level(" + n + ", 0)", x.level(n, 0), UNKNOWN);
        }
        DUE.is("count(0)", x.count(0), 3);
    }

    private static void mainsHangOnNone() {
        DUE.sentence("A NODE is a MAIN (it hangs on none)");
        PipeHouse x = Scenes.comb(1, 1);
        x.main(0, 1);
        for (int n : new int[] {0, 2}) {
            DUE.is("node(" + n + ", 1)", x.node(n, 1), NONE);
            DUE.is("node(" + n + ", 6): no run", x.node(n, 6), 0);
            DUE.is("node(" + n + ", 7): no run", x.node(n, 7), 0);
            DUE.is("run(" + n + ", 0): no run", x.run(n, 0), NONE);
        }
        DUE.is("count(1)", x.count(1), 2);
    }

    private static void nodesHangOnNodesAhead() {
        DUE.sentence("or hangs on a NODE ahead of it by a RUN");
        PipeHouse x = Scenes.comb(0, 1);
        DUE.is("hang(0, 5, 1): on the first", x.hang(0, 5, 1), 2);
        DUE.is("hang(2, 6, 1): on the last", x.hang(2, 6, 1), 3);
        DUE.is("hang(4, 7, 1): on itself", x.hang(4, 7, 1), UNKNOWN);
        DUE.is("node(1, 1)", x.node(1, 1), 0);
        DUE.is("node(2, 1)", x.node(2, 1), 0);
        DUE.is("node(3, 1)", x.node(3, 1), 2);
    }

    private static void aRunIsByThePricesWhenHung() {
        DUE.sentence("THE WAY from its own CELL to that NODE's, by the PRICES as they were when it was hung");
        PipeHouse x = new PipeHouse();
        x.main(13, 0);
        x.hang(0, 15, 1);
        x.price(14, 0);
        runIs(x, 1, 15, 14, 13);
        x.hang(0, 15, 1);
        runIs(x, 2, 15, 3, 2, 1, 13);
        x.price(14, 1);
        runIs(x, 2, 15, 3, 2, 1, 13);
        x.hang(0, 15, 1);
        runIs(x, 3, 15, 14, 13);
        // From its own CELL on the lesser one is 1; from the NODE's it would be 0.
        x.main(12, 0);
        x.hang(4, 1, 1);
        runIs(x, 5, 1, 0, 12);
        x.main(1, 0);
        x.hang(6, 12, 1);
        runIs(x, 7, 12, 0, 1);
        x.main(0, 0);
        x.hang(8, 13, 1);
        runIs(x, 9, 13, 1, 0);
        x.main(26, 0);
        x.hang(10, 0, 1);
        runIs(x, 11, 0, 1, 2, 14, 26);
    }

    private static void sortsAre0And1() {
        DUE.sentence("0 DRAIN, 1 HOT");
        PipeHouse x = new PipeHouse();
        DUE.is("main(5, 0): the least", x.main(5, 0), 0);
        DUE.is("main(5, 1): the greatest", x.main(5, 1), 1);
        DUE.is("main(5, -1)", x.main(5, -1), OUTSIDE);
        DUE.is("main(5, 2)", x.main(5, 2), OUTSIDE);
        DUE.is("main(5, MIN)", x.main(5, MIN), OUTSIDE);
        DUE.is("main(5, MAX)", x.main(5, MAX), OUTSIDE);
        DUE.is("node(0, 2)", x.node(0, 2), 0);
        DUE.is("node(1, 2)", x.node(1, 2), 1);
        DUE.is("count(0)", x.count(0), 2);
    }

    private static void theSortIsTheMainsOne() {
        DUE.sentence("Its SORT is that of its MAIN");
        PipeHouse x = new PipeHouse();
        x.main(0, 0);
        x.main(0, 1);
        for (int n = 2; n < MOST; n++) {
            x.hang(n - 2, n, 1);
        }
        for (int n = 0; n < MOST; n++) {
            DUE.is("node(" + n + ", 2)", x.node(n, 2), n % 2);
        }
    }

    private static void unitsFrom0To50WhenHung() {
        DUE.sentence("It has UNITS (0 .. 50).");
        PipeHouse x = new PipeHouse();
        x.main(0, 0);
        DUE.is("hang(0, 1, -1)", x.hang(0, 1, -1), OUTSIDE);
        DUE.is("hang(0, 1, 51)", x.hang(0, 1, 51), OUTSIDE);
        DUE.is("hang(0, 1, MIN)", x.hang(0, 1, MIN), OUTSIDE);
        DUE.is("hang(0, 1, MAX)", x.hang(0, 1, MAX), OUTSIDE);
        DUE.is("hang(0, 1, 256): its last byte is 0", x.hang(0, 1, 256), OUTSIDE);
        DUE.is("count(0)", x.count(0), 1);
        DUE.is("hang(0, 1, 0): the least", x.hang(0, 1, 0), 1);
        DUE.is("hang(0, 1, 50): the greatest", x.hang(0, 1, 50), 2);
        DUE.is("node(1, 3)", x.node(1, 3), 0);
        DUE.is("node(2, 3)", x.node(2, 3), 50);
    }

    private static void unitsFrom0To50WhenTold() {
        DUE.sentence("It has UNITS (0 .. 50).");
        PipeHouse x = Scenes.comb(0, 1);
        for (int n = 0; n < 2; n++) {
            DUE.is("units(" + n + ", 50): the greatest", x.units(n, 50), n);
            DUE.is("units(" + n + ", 51)", x.units(n, 51), OUTSIDE);
            DUE.is("units(" + n + ", 0): the least", x.units(n, 0), 50);
            DUE.is("units(" + n + ", -1)", x.units(n, -1), OUTSIDE);
            DUE.is("units(" + n + ", MIN)", x.units(n, MIN), OUTSIDE);
            DUE.is("units(" + n + ", MAX)", x.units(n, MAX), OUTSIDE);
            DUE.is("node(" + n + ", 3)", x.node(n, 3), 0);
        }
    }

    private static void unitsTellWhatTheyWere() {
        DUE.sentence("UNITS of a NODE become v: what they were.");
        PipeHouse x = new PipeHouse();
        x.main(0, 1);
        x.hang(0, 1, 7);
        DUE.is("units(0, 3): of a main, 0 at first", x.units(0, 3), 0);
        DUE.is("units(0, 3): the same again", x.units(0, 3), 3);
        DUE.is("units(1, 8)", x.units(1, 8), 7);
        DUE.is("units(1, 0)", x.units(1, 0), 8);
        DUE.is("node(0, 3): another one's stay", x.node(0, 3), 3);
    }

    private static void aLoadOfNoUnits() {
        DUE.sentence("LOAD of a RUN: the UNITS of its NODE and of all that hang on it, at any depth.");
        PipeHouse x = new PipeHouse();
        x.main(0, 0);
        DUE.is("node(0, 5) alone", x.node(0, 5), 0);
        x.hang(0, 1, 0);
        x.hang(1, 2, 0);
        for (int n = 0; n < 3; n++) {
            DUE.is("node(" + n + ", 5)", x.node(n, 5), 0);
        }
        DUE.is("node(1, 8): the least size lets 0 pass", x.node(1, 8), 0);
    }

    private static void aLoadAtAnyDepth() {
        DUE.sentence("LOAD of a RUN: the UNITS of its NODE and of all that hang on it, at any depth.");
        PipeHouse x = new PipeHouse();
        x.main(0, 0);
        x.hang(0, 1, 1);
        x.hang(1, 2, 2);
        x.hang(2, 3, 4);
        x.hang(1, 13, 8);
        x.hang(0, 12, 16);
        x.main(0, 0);
        x.hang(6, 1, 50);
        x.units(0, 32);
        int[] loads = {63, 15, 6, 4, 8, 16, 50, 50};
        for (int n = 0; n < loads.length; n++) {
            DUE.is("node(" + n + ", 5)", x.node(n, 5), loads[n]);
        }
    }

    private static void theGreatestLoad() {
        DUE.sentence("LOAD of a RUN: the UNITS of its NODE and of all that hang on it, at any depth.");
        PipeHouse x = new PipeHouse();
        x.main(0, 0);
        x.units(0, 50);
        for (int n = 1; n < MOST; n++) {
            x.hang(n - 1, n, 50);
        }
        for (int n = 0; n < MOST; n++) {
            DUE.is("node(" + n + ", 5)", x.node(n, 5), 50 * (MOST - n));
        }
        x.limit(5, 1149);
        DUE.is("node(1, 8): 1150 above 1149", x.node(1, 8), NONE);
        x.limit(5, 1150);
        DUE.is("node(1, 8): 1150", x.node(1, 8), 5);
    }

    private static void lengths() {
        DUE.sentence("LENGTH: its CELLS less 1, times 50 (in centimetres).");
        PipeHouse x = Scenes.snake();
        x.main(132, 0);
        x.hang(0, Scenes.snakeCell(76), 1);
        x.hang(0, Scenes.snakeCell(75), 1);
        x.hang(0, 0, 1);
        DUE.is("node(1, 6): two cells, the fewest", x.node(1, 6), 50);
        DUE.is("node(2, 6): three cells", x.node(2, 6), 100);
        DUE.is("node(3, 6): 78 cells", x.node(3, 6), 77 * 50);
        DUE.is("run(3, 77): the last of them", x.run(3, 77), 132);
        DUE.is("count(6)", x.count(6), 80 * 50);
    }

    private static void turnsOfShortAndStraightRuns() {
        DUE.sentence("TURNS: how often three CELLS of it, one behind the other, do not lie in one line.");
        PipeHouse x = new PipeHouse();
        x.main(65, 0);
        int[] straight = {64, 66, 53, 77, 60, 71, 5, 137};
        for (int i = 0; i < straight.length; i++) {
            x.hang(0, straight[i], 1);
            DUE.is("turns from " + straight[i], x.node(i + 1, 7), 0);
        }
        DUE.is("count(7)", x.count(7), 0);
        int[] corner = {52, 54, 76, 78};
        for (int i = 0; i < corner.length; i++) {
            x.hang(0, corner[i], 1);
            DUE.is("turns from " + corner[i], x.node(i + 9, 7), 1);
        }
        DUE.is("count(7) then", x.count(7), 4);
    }

    private static void turnsAtEachCell() {
        DUE.sentence("TURNS: how often three CELLS of it, one behind the other, do not lie in one line.");
        PipeHouse x = Scenes.only(0, 1, 13, 14, 26, 27);
        x.main(0, 0);
        x.hang(0, 27, 1);
        DUE.is("node(1, 7): a stair", x.node(1, 7), 4);
        PipeHouse y = Scenes.snake();
        y.main(132, 0);
        y.hang(0, 0, 1);
        // Two at each of five gates, one into the last cell.
        DUE.is("node(1, 7): a snake", y.node(1, 7), 11);
    }

    private static void theLimitsOfTheSizes() {
        DUE.sentence("a SIZE lets pass LIMITS (told, rising: each above the one ahead; 2, 6, 12, 24, 60, 200 at first)");
        PipeHouse x = new PipeHouse();
        x.main(0, 0);
        x.hang(0, 1, 0);
        for (int n = 2; n < 6; n++) {
            x.hang(1, n, 0);
        }
        int[] limits = {2, 6, 12, 24, 60, 200};
        for (int s = 0; s < limits.length; s++) {
            load(x, limits[s] - 1);
            DUE.is("node(1, 8) with " + (limits[s] - 1), x.node(1, 8), s);
            load(x, limits[s]);
            DUE.is("node(1, 8) with " + limits[s], x.node(1, 8), s);
            load(x, limits[s] + 1);
            DUE.is("node(1, 8) with " + (limits[s] + 1), x.node(1, 8), s == 5 ? NONE : s + 1);
        }
    }

    /** Gives the nodes 1 to 5 so many units in all. */
    private static void load(PipeHouse x, int units) {
        int left = units;
        for (int n = 1; n < 6; n++) {
            int part = Math.min(left, 50);
            x.units(n, part);
            left -= part;
        }
        DUE.is("node(1, 5)", x.node(1, 5), units);
    }

    /** A LOAD is never less than one behind it, so the least SIZE for it is not, either. */
    private static void aSizeIsNotLessThanBehindIt() {
        DUE.sentence("and is not less than the SIZE of any RUN that hangs on its NODE");
        PipeHouse x = new PipeHouse();
        x.main(0, 0);
        x.hang(0, 1, 0);
        x.hang(1, 2, 0);
        x.hang(2, 3, 25);
        x.hang(1, 13, 3);
        int[] sizes = {4, 4, 4, 4, 1};
        for (int n = 0; n < sizes.length; n++) {
            DUE.is("node(" + n + ", 8)", x.node(n, 8), sizes[n]);
        }
    }

    private static void noSizeAboveTheLast() {
        DUE.sentence("NONE, if there is none");
        PipeHouse x = Scenes.comb(0, 1);
        Scenes.tightLimits(x);
        x.units(1, 6);
        DUE.is("node(1, 8) with 6", x.node(1, 8), 5);
        DUE.is("count(2) with 6", x.count(2), 0);
        x.units(1, 7);
        DUE.is("node(1, 8) with 7", x.node(1, 8), NONE);
        DUE.is("count(2) with 7", x.count(2), 1);
        x.limit(5, 7);
        DUE.is("node(1, 8) with 7 of 7", x.node(1, 8), 5);
    }

    private static void noSizeIfOneBehindHasNone() {
        DUE.sentence("NONE, if there is none (also if one of those is NONE)");
        PipeHouse x = new PipeHouse();
        Scenes.tightLimits(x);
        x.main(0, 0);
        x.hang(0, 1, 0);
        x.hang(1, 2, 0);
        x.hang(2, 3, 7);
        x.hang(2, 14, 1);
        x.hang(0, 12, 1);
        int[] sizes = {NONE, NONE, NONE, NONE, 0, 0};
        for (int n = 0; n < sizes.length; n++) {
            DUE.is("node(" + n + ", 8)", x.node(n, 8), sizes[n]);
        }
        DUE.is("count(2)", x.count(2), 3);
    }

    private static void theSizeOfAMain() {
        DUE.sentence("SIZE (of a MAIN: the greatest of RUNS that hang on it, 0 without any, NONE if one is)");
        PipeHouse x = new PipeHouse();
        x.main(0, 1);
        DUE.is("node(0, 8): without any", x.node(0, 8), 0);
        x.units(0, 50);
        DUE.is("node(0, 8): without any, with units", x.node(0, 8), 0);
        x.hang(0, 1, 7);
        x.hang(0, 12, 13);
        x.hang(0, 2, 1);
        DUE.is("node(0, 8): the second of three", x.node(0, 8), 3);
        // Together 60 and more come to the MAIN, but no RUN is as wide as that.
        x.hang(0, 3, 24);
        x.hang(0, 4, 24);
        DUE.is("node(0, 8): no sum", x.node(0, 8), 3);
        Scenes.tightLimits(x);
        x.units(1, 6);
        x.units(2, 1);
        x.units(4, 1);
        DUE.is("node(0, 8): the last one is none", x.node(0, 8), NONE);
        x.units(5, 1);
        DUE.is("node(0, 8): none is none", x.node(0, 8), 5);
        x.main(0, 1);
        DUE.is("node(6, 8): another main", x.node(6, 8), 0);
    }

    private static void mainIsRefused() {
        DUE.sentence("A MAIN of a SORT in a CELL: its NODE. UNKNOWN, OUTSIDE, FULL.");
        PipeHouse x = new PipeHouse();
        DUE.is("main(144, 0)", x.main(144, 0), UNKNOWN);
        DUE.is("main(0, 2)", x.main(0, 2), OUTSIDE);
        x.price(0, 0);
        DUE.is("main(0, 0): a wall is a cell", x.main(0, 0), 0);
        DUE.is("main(0, 1): the same cell", x.main(0, 1), 1);
    }

    private static void hangIntoItsOwnCell() {
        DUE.sentence("NOT: there is no WAY, or its CELL is n's");
        PipeHouse x = Scenes.comb(0, 1);
        DUE.is("hang(0, 0, 1)", x.hang(0, 0, 1), NOT);
        DUE.is("hang(1, 1, 1)", x.hang(1, 1, 1), NOT);
        DUE.is("count(0)", x.count(0), 2);
        DUE.is("hang(1, 0, 1): another node's cell", x.hang(1, 0, 1), 2);
        DUE.is("hang(0, 1, 1): another node's cell", x.hang(0, 1, 1), 3);
    }

    private static void hangWithoutAWay() {
        DUE.sentence("NOT: there is no WAY, or its CELL is n's");
        PipeHouse x = Scenes.only(0, 1, 2, 13);
        x.main(2, 0);
        DUE.is("hang(0, 143, 1): walls between", x.hang(0, 143, 1), NOT);
        DUE.is("hang(0, 0, 1)", x.hang(0, 0, 1), 1);
        x.price(2, 0);
        DUE.is("hang(0, 1, 1): a wall at the end", x.hang(0, 1, 1), NOT);
        x.price(2, 1);
        x.price(1, 0);
        DUE.is("hang(0, 0, 1): a wall between", x.hang(0, 0, 1), NOT);
        DUE.is("hang(0, 1, 1): a wall at the beginning", x.hang(0, 1, 1), 2);
        DUE.is("count(0)", x.count(0), 3);
    }

    private static void airedFromNowOnOrNot() {
        DUE.sentence("A NODE of a DRAIN is AIRED from now on, or not: 1 if it was, 0.");
        PipeHouse x = Scenes.comb(0, 2);
        DUE.is("node(1, 4) at first", x.node(1, 4), 0);
        DUE.is("air(1, false): not, and was not", x.air(1, false), 0);
        DUE.is("air(1, true)", x.air(1, true), 0);
        DUE.is("air(1, true) again", x.air(1, true), 1);
        DUE.is("node(1, 4)", x.node(1, 4), 1);
        DUE.is("node(2, 4): another one", x.node(2, 4), 0);
        DUE.is("air(1, false)", x.air(1, false), 1);
        DUE.is("air(1, false) again", x.air(1, false), 0);
        DUE.is("node(1, 4) then", x.node(1, 4), 0);
    }

    private static void airIsNotForMainsAndHot() {
        DUE.sentence("NOT: a MAIN, or it is HOT.");
        PipeHouse x = Scenes.comb(0, 1);
        x.main(0, 1);
        x.hang(2, 1, 1);
        for (boolean on : new boolean[] {false, true}) {
            DUE.is("air(0, " + on + "): a main of drains", x.air(0, on), NOT);
            DUE.is("air(2, " + on + "): a main of hot", x.air(2, on), NOT);
            DUE.is("air(3, " + on + "): hot", x.air(3, on), NOT);
        }
        DUE.sentence("MAINS of DRAINS always are (what is HOT never is)");
        int[] aired = {1, 0, 0, 0};
        for (int n = 0; n < aired.length; n++) {
            DUE.is("node(" + n + ", 4)", x.node(n, 4), aired[n]);
        }
    }

    private static void cutTakesAllFromNOn() {
        DUE.sentence("The NODES from n on (those with greater numbers, too) are there no more: how many went.");
        PipeHouse x = Scenes.comb(0, 2);
        x.main(50, 1);
        x.hang(1, 20, 4);
        x.hang(3, 51, 5);
        DUE.is("node(1, 5)", x.node(1, 5), 5);
        DUE.is("cut(2): also what hangs on nodes that stay", x.cut(2), 4);
        DUE.is("node(1, 5) then", x.node(1, 5), 1);
        DUE.is("node(1, 0): it stays", x.node(1, 0), 1);
        DUE.is("node(2, 0)", x.node(2, 0), UNKNOWN);
        DUE.is("count(0)", x.count(0), 2);
        DUE.is("count(1)", x.count(1), 1);
        DUE.is("count(6)", x.count(6), 50);
    }

    private static void cutTakesTheLastAndTheFirst() {
        DUE.sentence("The NODES from n on (those with greater numbers, too) are there no more: how many went. UNKNOWN.");
        PipeHouse x = Scenes.comb(0, MOST - 1);
        DUE.is("cut(24): behind the last", x.cut(24), UNKNOWN);
        DUE.is("cut(23): the last", x.cut(23), 1);
        DUE.is("cut(23) again", x.cut(23), UNKNOWN);
        DUE.is("cut(-1)", x.cut(-1), UNKNOWN);
        DUE.is("cut(0): all", x.cut(0), MOST - 1);
        DUE.is("cut(0) again", x.cut(0), UNKNOWN);
        DUE.is("count(0)", x.count(0), 0);
    }

    private static void whatWasCutIsForgotten() {
        DUE.sentence("are there no more");
        PipeHouse x = Scenes.comb(0, 2);
        x.air(2, true);
        x.units(0, 9);
        x.cut(2);
        DUE.is("hang(1, 4, 0)", x.hang(1, 4, 0), 2);
        int[] told = {4, 1, 0, 0, 0, 0, 150, 0, 0, 200, 0, NONE};
        for (int what = 0; what < told.length; what++) {
            DUE.is("node(2, " + what + ")", x.node(2, what), told[what]);
        }
        x.cut(0);
        x.main(7, 1);
        x.main(8, 0);
        x.main(9, 1);
        DUE.is("node(0, 3): a main's units after another's", x.node(0, 3), 0);
        DUE.is("node(0, 4): hot after a drain", x.node(0, 4), 0);
        DUE.is("node(1, 4): a drain after one that was not aired", x.node(1, 4), 1);
        for (int n = 0; n < 3; n++) {
            DUE.is("node(" + n + ", 1): a main after a run", x.node(n, 1), NONE);
            DUE.is("node(" + n + ", 6): a main after a run", x.node(n, 6), 0);
            DUE.is("run(" + n + ", 0): a main after a run", x.run(n, 0), NONE);
        }
    }

    private static void nodeTellsFrom0To11() {
        DUE.sentence("Of a NODE: what = 0 its CELL, .. 11 SECONDS");
        PipeHouse x = Scenes.comb(1, 1);
        DUE.is("node(1, -1)", x.node(1, -1), OUTSIDE);
        DUE.is("node(1, 0): the least", x.node(1, 0), 1);
        DUE.is("node(1, 11): the greatest", x.node(1, 11), 1);
        DUE.is("node(1, 12)", x.node(1, 12), OUTSIDE);
        DUE.is("node(1, MIN)", x.node(1, MIN), OUTSIDE);
        DUE.is("node(1, MAX)", x.node(1, MAX), OUTSIDE);
    }

    private static void nodeTellsOfAMain() {
        DUE.sentence("5 LOAD (of a MAIN of all that hangs on it, and itself)");
        PipeHouse x = new PipeHouse();
        x.main(20, 0);
        x.units(0, 5);
        DUE.is("node(0, 5): itself", x.node(0, 5), 5);
        x.hang(0, 21, 7);
        x.hang(1, 22, 11);
        DUE.is("node(0, 5): and all that hangs on it", x.node(0, 5), 23);
        DUE.sentence("11 SECONDS (NONE of DRAINS, and MAINS)");
        x.main(40, 1);
        x.units(3, 5);
        DUE.is("node(0, 11): a main of drains", x.node(0, 11), NONE);
        DUE.is("node(1, 11): a drain", x.node(1, 11), NONE);
        DUE.is("node(3, 11): a main of hot", x.node(3, 11), NONE);
    }

    private static void runBeginsWithItsOwnCell() {
        DUE.sentence("CELL i of the RUN of a NODE (0 its own); NONE.");
        PipeHouse x = new PipeHouse();
        x.main(26, 0);
        x.hang(0, 28, 1);
        DUE.is("run(1, -1)", x.run(1, -1), NONE);
        DUE.is("run(1, MIN)", x.run(1, MIN), NONE);
        DUE.is("run(1, 0)", x.run(1, 0), 28);
        DUE.is("run(1, 1)", x.run(1, 1), 27);
        DUE.is("run(1, 2): the node's that it hangs on", x.run(1, 2), 26);
    }

    private static void runEnds() {
        DUE.sentence("CELL i of the RUN of a NODE (0 its own); NONE.");
        PipeHouse x = Scenes.snake();
        x.main(0, 0);
        x.hang(0, 132, 1);
        x.hang(0, 1, 1);
        DUE.is("run(1, 77)", x.run(1, 77), 0);
        DUE.is("run(1, 78)", x.run(1, 78), NONE);
        DUE.is("run(1, 143)", x.run(1, 143), NONE);
        DUE.is("run(1, 144): not the next one's", x.run(1, 144), NONE);
        DUE.is("run(1, MAX)", x.run(1, MAX), NONE);
        DUE.is("run(2, 1)", x.run(2, 1), 0);
        DUE.is("run(2, 2)", x.run(2, 2), NONE);
        x.cut(1);
        x.hang(0, 1, 1);
        DUE.is("run(1, 2): a shorter one after a longer one", x.run(1, 2), NONE);
    }

    private static void runIs(PipeHouse x, int n, int... cells) {
        for (int i = 0; i < cells.length; i++) {
            DUE.is("run(" + n + ", " + i + ")", x.run(n, i), cells[i]);
        }
        DUE.is("run(" + n + ") ends", x.run(n, cells.length), NONE);
    }
}
