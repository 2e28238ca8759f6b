/** Sentence by sentence, the boundary cases of the document's terms 3 (DRAINS) and promises 15 and 16. */
public final class DrainEdgesTest {
    private static final Due DUE = new Due("DrainEdgesTest");
    private static final int NONE = -1, UNKNOWN = -1001, OUTSIDE = -1002, NOT = -1003;
    private static final int MIN = Integer.MIN_VALUE, MAX = Integer.MAX_VALUE;
    private static final int SLOPE = 0, COVER = 1, REACH = 2;

    public static void main(String[] args) {
        theLevelOfAMain();
        theLeastAndTheGreatestSlope();
        runsBeginWithTheLevelOfTheirNode();
        theGreatestLevel();
        levelOfACellThatThereIsNot();
        levelOfHot();
        levelOfAMainsRun();
        noClashAtAll();
        lessThanCover();
        aCoverOf0();
        theGreatestCover();
        theHigherOneMayBeEither();
        drainsAloneClash();
        aCellInCommon();
        endsAreInCommon();
        oneOnTheOthersNode();
        oneFurtherUp();
        bothOnTheSameNode();
        theLeastNodeFirst();
        thenTheLeastOtherOne();
        thenTheLeastCell();
        clashTellsFrom0To2();
        airOfMainsAndHot();
        aTrapNeedsUnits();
        aTrapAtItsReach();
        reachGrowsWithItsOwnSize();
        theLeastAndTheGreatestReach();
        upToTheFirstThatIsAired();
        itsOwnAir();
        airBehindDoesNotHelp();
        theTrapOfAMain();
        noTrapIsSafeWithoutASize();
        DUE.end();
    }

    private static void theLevelOfAMain() {
        DUE.sentence("at a MAIN 0");
        PipeHouse x = Scenes.comb(0, 3);
        x.main(2, 0);
        x.rule(SLOPE, 20);
        DUE.is("node(0, 9)", x.node(0, 9), 0);
        DUE.is("node(4, 9)", x.node(4, 9), 0);
        DUE.is("level(3, 3): where it comes to its main", x.level(3, 3), 0);
    }

    private static void theLeastAndTheGreatestSlope() {
        DUE.sentence("by SLOPE times 5 for each step from CELL to CELL");
        PipeHouse x = Scenes.comb(0, 3);
        int[] slopes = {10, 1, 20};
        for (int slope : slopes) {
            x.rule(SLOPE, slope);
            for (int i = 0; i <= 3; i++) {
                DUE.is("level(3, " + i + ") at " + slope, x.level(3, i), slope * 5 * (3 - i));
            }
            DUE.is("node(1, 9) at " + slope, x.node(1, 9), slope * 5);
        }
    }

    private static void runsBeginWithTheLevelOfTheirNode() {
        DUE.sentence("each of its CELLS has a LEVEL, and what hangs on its NODE begins with that");
        PipeHouse x = new PipeHouse();
        x.main(0, 0);
        x.hang(0, 2, 1);
        x.hang(1, 26, 1);
        x.hang(2, 25, 1);
        int[][] levels = {{}, {100, 50, 0}, {200, 150, 100}, {250, 200}};
        for (int n = 1; n < levels.length; n++) {
            for (int i = 0; i < levels[n].length; i++) {
                DUE.is("level(" + n + ", " + i + ")", x.level(n, i), levels[n][i]);
            }
            DUE.is("node(" + n + ", 9)", x.node(n, 9), levels[n][0]);
        }
    }

    private static void theGreatestLevel() {
        DUE.sentence("a RUN rises from the NODE that it hangs on to its own by SLOPE times 5 for each step from CELL to CELL");
        PipeHouse x = Scenes.snake();
        x.rule(SLOPE, 20);
        x.rule(COVER, 2000);
        x.main(0, 0);
        for (int n = 1; n < 24; n++) {
            x.hang(n - 1, n % 2 == 1 ? 132 : 0, 1);
        }
        DUE.is("node(23, 9)", x.node(23, 9), 23 * 77 * 100);
        DUE.is("level(23, 77)", x.level(23, 77), 22 * 77 * 100);
        DUE.is("level(23, 78)", x.level(23, 78), NOT);
        DUE.is("count(5): each RUN far above all that are not joined to it", x.count(5), 0);
    }

    private static void levelOfACellThatThereIsNot() {
        DUE.sentence("NOT: HOT, or no such CELL.");
        PipeHouse x = Scenes.comb(0, 2);
        DUE.is("level(2, -1)", x.level(2, -1), NOT);
        DUE.is("level(2, 0): the first", x.level(2, 0), 100);
        DUE.is("level(2, 2): the last", x.level(2, 2), 0);
        DUE.is("level(2, 3)", x.level(2, 3), NOT);
        DUE.is("level(2, 144)", x.level(2, 144), NOT);
        DUE.is("level(2, MIN)", x.level(2, MIN), NOT);
        DUE.is("level(2, MAX)", x.level(2, MAX), NOT);
        DUE.is("level(3, 0): no such node", x.level(3, 0), UNKNOWN);
    }

    private static void levelOfHot() {
        DUE.sentence("NOT: HOT, or no such CELL.");
        PipeHouse x = Scenes.comb(1, 2);
        for (int i = -1; i <= 3; i++) {
            DUE.is("level(2, " + i + ")", x.level(2, i), NOT);
        }
        DUE.is("level(0, 0)", x.level(0, 0), NOT);
    }

    private static void levelOfAMainsRun() {
        DUE.sentence("LEVEL of CELL i of the RUN of a NODE, likewise.");
        PipeHouse x = Scenes.comb(0, 2);
        DUE.is("level(0, 0): a main has no run", x.level(0, 0), NOT);
        DUE.is("level(0, -1)", x.level(0, -1), NOT);
    }

    private static void noClashAtAll() {
        DUE.sentence("NONE: there is none.");
        PipeHouse x = new PipeHouse();
        clashesAre(x, 0, NONE, NONE, NONE);
        x.main(0, 0);
        x.main(0, 0);
        clashesAre(x, 0, NONE, NONE, NONE);
        x.hang(0, 11, 1);
        clashesAre(x, 0, NONE, NONE, NONE);
        x.hang(1, 132, 1);
        clashesAre(x, 1, 2, 3, 0);
        x.cut(3);
        clashesAre(x, 0, NONE, NONE, NONE);
    }

    private static void lessThanCover() {
        DUE.sentence("in which their LEVELS differ by less than COVER");
        PipeHouse x = Scenes.crossing(0);
        // In 15 the one lies 3 steps up, the other one 1: they differ by 2 * 50.
        x.rule(COVER, 99);
        clashesAre(x, 0, NONE, NONE, NONE);
        x.rule(COVER, 100);
        clashesAre(x, 0, NONE, NONE, NONE);
        x.rule(COVER, 101);
        clashesAre(x, 1, 1, 3, 15);
    }

    private static void aCoverOf0() {
        DUE.sentence("COVER (0 .. 2000; 500 at first)");
        PipeHouse x = new PipeHouse();
        for (int k = 0; k < 2; k++) {
            x.main(0, 0);
            x.hang(2 * k, 5, 1);
        }
        x.rule(COVER, 0);
        clashesAre(x, 0, NONE, NONE, NONE);
        x.rule(COVER, 1);
        clashesAre(x, 1, 1, 3, 0);
    }

    private static void theGreatestCover() {
        DUE.sentence("COVER (0 .. 2000; 500 at first)");
        PipeHouse x = new PipeHouse();
        x.main(0, 0);
        x.hang(0, 143, 1);
        x.main(119, 0);
        x.hang(2, 118, 1);
        x.rule(COVER, 2000);
        // In 119 the one lies 20 steps up, the other one at its MAIN.
        x.rule(SLOPE, 20);
        clashesAre(x, 0, NONE, NONE, NONE);
        x.rule(SLOPE, 19);
        clashesAre(x, 1, 1, 3, 119);
    }

    private static void theHigherOneMayBeEither() {
        DUE.sentence("in which their LEVELS differ by less than COVER");
        PipeHouse x = new PipeHouse();
        x.main(3, 0);
        x.hang(0, 39, 1);
        x.main(12, 0);
        x.hang(2, 18, 1);
        x.rule(COVER, 100);
        clashesAre(x, 0, NONE, NONE, NONE);
        x.rule(COVER, 101);
        clashesAre(x, 1, 1, 3, 15);
        PipeHouse y = Scenes.crossing(0);
        y.rule(COVER, 100);
        clashesAre(y, 0, NONE, NONE, NONE);
    }

    private static void drainsAloneClash() {
        DUE.sentence("A CLASH: two RUNS of DRAINS");
        clashesAre(Scenes.crossing(0), 1, 1, 3, 15);
        clashesAre(Scenes.crossing(1), 0, NONE, NONE, NONE);
        PipeHouse x = new PipeHouse();
        x.main(12, 1);
        x.hang(0, 18, 1);
        x.main(3, 1);
        x.hang(2, 39, 1);
        clashesAre(x, 0, NONE, NONE, NONE);
        x.main(12, 0);
        x.hang(4, 18, 1);
        clashesAre(x, 0, NONE, NONE, NONE);
    }

    private static void aCellInCommon() {
        DUE.sentence("that have a CELL in common");
        PipeHouse x = new PipeHouse();
        x.main(0, 0);
        x.hang(0, 11, 1);
        x.main(12, 0);
        x.hang(2, 23, 1);
        x.rule(COVER, 2000);
        clashesAre(x, 0, NONE, NONE, NONE);
        // A MAIN lies in a CELL, but it has no RUN.
        x.main(5, 0);
        clashesAre(x, 0, NONE, NONE, NONE);
    }

    private static void endsAreInCommon() {
        DUE.sentence("that have a CELL in common");
        PipeHouse x = new PipeHouse();
        x.main(0, 0);
        x.hang(0, 2, 1);
        x.main(4, 0);
        x.hang(2, 2, 1);
        clashesAre(x, 1, 1, 3, 2);
        x.cut(2);
        x.main(2, 0);
        x.hang(2, 4, 1);
        clashesAre(x, 1, 1, 3, 2);
        x.cut(2);
        x.main(0, 0);
        x.hang(2, 24, 1);
        clashesAre(x, 1, 1, 3, 0);
    }

    private static void oneOnTheOthersNode() {
        DUE.sentence("neither of whose NODES hangs right on the other's");
        PipeHouse x = new PipeHouse();
        x.main(0, 0);
        x.hang(0, 5, 1);
        x.hang(1, 0, 1);
        x.rule(COVER, 2000);
        x.rule(SLOPE, 1);
        clashesAre(x, 0, NONE, NONE, NONE);
    }

    private static void oneFurtherUp() {
        DUE.sentence("neither of whose NODES hangs right on the other's");
        PipeHouse x = new PipeHouse();
        x.main(0, 0);
        x.hang(0, 5, 1);
        x.hang(1, 17, 1);
        x.hang(2, 5, 1);
        // 3 hangs on 2, and 2 on 1: 1 and 3 meet in 5, 2 steps apart.
        x.rule(COVER, 100);
        clashesAre(x, 0, NONE, NONE, NONE);
        x.rule(COVER, 101);
        clashesAre(x, 1, 1, 3, 5);
    }

    private static void bothOnTheSameNode() {
        DUE.sentence("nor both on the same NODE");
        PipeHouse x = new PipeHouse();
        x.main(0, 0);
        x.hang(0, 5, 1);
        x.hang(0, 6, 1);
        x.hang(1, 9, 1);
        x.hang(1, 10, 1);
        // 3 and 4 lie 5 .. 9 and 5 .. 10, with 2 they have 5 and 6 in common.
        clashesAre(x, 2, 2, 3, 5);
        x.cut(3);
        clashesAre(x, 0, NONE, NONE, NONE);
        x.main(0, 0);
        x.hang(3, 5, 1);
        // Another MAIN in the same CELL is another NODE.
        clashesAre(x, 2, 1, 4, 0);
    }

    private static void theLeastNodeFirst() {
        DUE.sentence("The first CLASH: that of the least NODE");
        PipeHouse x = new PipeHouse();
        x.main(0, 0);
        x.main(12, 0);
        x.main(140, 0);
        x.hang(0, 5, 1);
        x.main(132, 0);
        x.hang(4, 138, 1);
        x.hang(2, 135, 1);
        x.hang(1, 0, 1);
        // 5 and 6 meet in row 11, and 3 and 7 in 0: the pair of 3 is the first, though 7 is the last of all.
        clashesAre(x, 2, 3, 7, 0);
        x.cut(7);
        clashesAre(x, 1, 5, 6, 135);
    }

    private static void thenTheLeastOtherOne() {
        DUE.sentence("then the least other one above it");
        PipeHouse x = new PipeHouse();
        x.main(24, 0);
        x.hang(0, 30, 1);
        x.main(6, 0);
        x.main(3, 0);
        x.hang(2, 42, 1);
        x.hang(3, 39, 1);
        // 4 comes through 30, 5 through 27: the lesser NODE is told, though its CELL is the greater.
        clashesAre(x, 2, 1, 4, 30);
        x.cut(5);
        clashesAre(x, 1, 1, 4, 30);
    }

    private static void thenTheLeastCell() {
        DUE.sentence("then the least CELL");
        PipeHouse x = new PipeHouse();
        x.main(3, 0);
        x.hang(0, 8, 1);
        x.main(1, 0);
        x.hang(2, 6, 1);
        // They go from 3 to 6 side by side, 2 steps apart all along.
        clashesAre(x, 1, 1, 3, 3);
        PipeHouse y = new PipeHouse();
        y.main(8, 0);
        y.hang(0, 0, 1);
        y.main(0, 0);
        y.hang(2, 8, 1);
        // They meet all along, but in 4 alone at the same LEVEL, and one CELL further 2 steps apart.
        y.rule(COVER, 1);
        clashesAre(y, 1, 1, 3, 4);
        y.rule(COVER, 100);
        clashesAre(y, 1, 1, 3, 4);
        y.rule(COVER, 101);
        clashesAre(y, 1, 1, 3, 3);
        y.rule(COVER, 2000);
        clashesAre(y, 1, 1, 3, 0);
    }

    private static void clashTellsFrom0To2() {
        DUE.sentence("what = 0 its NODE, 1 the other one, 2 the CELL; NONE: there is none. OUTSIDE.");
        for (PipeHouse x : new PipeHouse[] {new PipeHouse(), Scenes.crossing(0)}) {
            DUE.is("clash(-1)", x.clash(-1), OUTSIDE);
            DUE.is("clash(3)", x.clash(3), OUTSIDE);
            DUE.is("clash(MIN)", x.clash(MIN), OUTSIDE);
            DUE.is("clash(MAX)", x.clash(MAX), OUTSIDE);
        }
        clashesAre(Scenes.crossing(0), 1, 1, 3, 15);
    }

    private static void airOfMainsAndHot() {
        DUE.sentence("a NODE of a DRAIN may be AIRED; MAINS of DRAINS always are (what is HOT never is)");
        PipeHouse x = Scenes.comb(0, 1);
        x.main(0, 1);
        x.hang(2, 1, 1);
        x.air(1, true);
        int[] aired = {1, 1, 0, 0};
        for (int n = 0; n < aired.length; n++) {
            DUE.is("node(" + n + ", 4)", x.node(n, 4), aired[n]);
        }
    }

    private static void aTrapNeedsUnits() {
        DUE.sentence("Each NODE of a DRAIN with UNITS has a TRAP");
        PipeHouse x = new PipeHouse();
        x.main(0, 0);
        x.hang(0, 1, 0);
        x.main(0, 1);
        x.hang(2, 1, 1);
        trapsAre(x, 0, 0, 0, 0, 0, 0);
        x.units(1, 1);
        trapsAre(x, 1, 1, 0, 1, 0, 0);
        x.units(0, 1);
        x.units(2, 1);
        trapsAre(x, 2, 2, 1, 1, 0, 0);
        x.units(1, 0);
        trapsAre(x, 1, 1, 1, 0, 0, 0);
    }

    private static void aTrapAtItsReach() {
        DUE.sentence("is not above REACH times its RUN's SIZE and 1");
        PipeHouse x = Scenes.comb(0, 4);
        trapsAre(x, 4, 3, 0, 1, 1, 1, 0);
        x.rule(REACH, 149);
        trapsAre(x, 4, 2, 0, 1, 1, 0, 0);
        x.rule(REACH, 199);
        trapsAre(x, 4, 3, 0, 1, 1, 1, 0);
        x.rule(REACH, 200);
        trapsAre(x, 4, 4, 0, 1, 1, 1, 1);
    }

    private static void reachGrowsWithItsOwnSize() {
        DUE.sentence("REACH times its RUN's SIZE and 1");
        PipeHouse x = Scenes.snake();
        x.main(0, 0);
        int[] units = {2, 6, 12, 24, 50};
        for (int s = 0; s < units.length; s++) {
            x.hang(0, Scenes.snakeCell(3 * (s + 1)), units[s]);
            x.hang(0, Scenes.snakeCell(3 * (s + 1) + 1), units[s]);
            DUE.is("node(1, 8)", x.node(1, 8), s);
            DUE.is("node(1, 10) in size " + s, x.node(1, 10), 1);
            DUE.is("node(2, 10) in size " + s + ", a step further", x.node(2, 10), 0);
            x.cut(1);
        }
        // A wide RUN towards the MAIN does not help: 3 steps from the MAIN safe, 4 not.
        x.hang(0, 2, 50);
        x.hang(1, 3, 1);
        x.hang(1, 4, 1);
        DUE.is("node(2, 10)", x.node(2, 10), 1);
        DUE.is("node(3, 10)", x.node(3, 10), 0);
    }

    private static void theLeastAndTheGreatestReach() {
        DUE.sentence("REACH 1 .. 500; 150 at first");
        PipeHouse x = Scenes.snake();
        x.main(132, 0);
        x.hang(0, Scenes.snakeCell(17), 50);
        x.hang(0, Scenes.snakeCell(16), 50);
        for (int n = 1; n < 3; n++) {
            x.hang(n, 132, 11);
            DUE.is("node(" + n + ", 8)", x.node(n, 8), 5);
        }
        x.rule(REACH, 500);
        DUE.is("node(1, 10): 3000 at 6 times 500", x.node(1, 10), 1);
        DUE.is("node(2, 10): 3050 at 6 times 500", x.node(2, 10), 0);
        x.rule(REACH, 1);
        x.cut(1);
        x.hang(0, Scenes.snakeCell(76), 50);
        DUE.is("node(1, 10): 50 at 5 times 1", x.node(1, 10), 0);
        x.air(1, true);
        DUE.is("node(1, 10): 0 at 5 times 1", x.node(1, 10), 1);
    }

    private static void upToTheFirstThatIsAired() {
        DUE.sentence("the LENGTH of all RUNS from it on towards the MAIN, up to the first NODE that is AIRED");
        PipeHouse x = new PipeHouse();
        x.main(0, 0);
        for (int n = 1; n <= 8; n++) {
            x.hang(n - 1, n, n == 8 ? 1 : 0);
        }
        x.rule(REACH, 400);
        DUE.is("node(8, 10): all 8 up to the main", x.node(8, 10), 1);
        x.rule(REACH, 399);
        DUE.is("node(8, 10): all 8, above 399", x.node(8, 10), 0);
        x.air(2, true);
        x.rule(REACH, 300);
        DUE.is("node(8, 10): 6 up to the second", x.node(8, 10), 1);
        x.rule(REACH, 299);
        DUE.is("node(8, 10): 6, above 299", x.node(8, 10), 0);
        x.air(5, true);
        x.rule(REACH, 150);
        DUE.is("node(8, 10): 3 up to the first of two", x.node(8, 10), 1);
        x.rule(REACH, 149);
        DUE.is("node(8, 10): 3, above 149", x.node(8, 10), 0);
        x.air(5, false);
        x.rule(REACH, 150);
        DUE.is("node(8, 10): no air in the fifth any more", x.node(8, 10), 0);
    }

    private static void itsOwnAir() {
        DUE.sentence("(its own one: 0)");
        PipeHouse x = Scenes.comb(0, 11);
        x.rule(REACH, 1);
        DUE.is("node(11, 10)", x.node(11, 10), 0);
        x.air(11, true);
        DUE.is("node(11, 10): aired", x.node(11, 10), 1);
        DUE.is("node(10, 10): beside it", x.node(10, 10), 0);
    }

    private static void airBehindDoesNotHelp() {
        DUE.sentence("from it on towards the MAIN");
        PipeHouse x = Scenes.comb(0, 4);
        x.hang(4, 5, 0);
        x.air(5, true);
        DUE.is("node(4, 10): what hangs on it is aired", x.node(4, 10), 0);
        x.air(4, true);
        DUE.is("node(4, 10): it is aired itself", x.node(4, 10), 1);
    }

    private static void theTrapOfAMain() {
        DUE.sentence("of a MAIN it is SAFE");
        PipeHouse x = Scenes.comb(0, 1);
        x.units(0, 1);
        x.rule(REACH, 1);
        DUE.is("node(0, 10)", x.node(0, 10), 1);
        Scenes.tightLimits(x);
        x.units(1, 50);
        DUE.is("node(0, 8): a run on it has none", x.node(0, 8), NONE);
        DUE.is("node(0, 10): it has no run itself", x.node(0, 10), 1);
        x.units(0, 50);
        DUE.is("node(0, 10) with 50", x.node(0, 10), 1);
        x.units(0, 0);
        DUE.is("node(0, 10) without units", x.node(0, 10), 0);
    }

    private static void noTrapIsSafeWithoutASize() {
        DUE.sentence("with SIZE NONE it is not");
        PipeHouse x = Scenes.comb(0, 1);
        Scenes.tightLimits(x);
        x.rule(REACH, 500);
        x.units(1, 6);
        DUE.is("node(1, 10) with 6", x.node(1, 10), 1);
        x.units(1, 7);
        DUE.is("node(1, 10) with 7", x.node(1, 10), 0);
        x.air(1, true);
        DUE.is("node(1, 10) with 7, though aired", x.node(1, 10), 0);
        DUE.is("count(3)", x.count(3), 1);
        DUE.is("count(4)", x.count(4), 0);
    }

    private static void clashesAre(PipeHouse x, int pairs, int node, int other, int cell) {
        DUE.is("clash(0)", x.clash(0), node);
        DUE.is("clash(1)", x.clash(1), other);
        DUE.is("clash(2)", x.clash(2), cell);
        DUE.is("count(5)", x.count(5), pairs);
    }

    private static void trapsAre(PipeHouse x, int traps, int safe, int... each) {
        DUE.is("count(3)", x.count(3), traps);
        DUE.is("count(4)", x.count(4), safe);
        for (int n = 0; n < each.length; n++) {
            DUE.is("node(" + n + ", 10)", x.node(n, 10), each[n]);
        }
    }
}
