/** Sentence by sentence, the boundary cases of the document's terms 1 (THE FLOOR) and promises 1 to 4. */
public final class FloorEdgesTest {
    private static final Due DUE = new Due("FloorEdgesTest");
    private static final int NONE = -1, UNKNOWN = -1001, OUTSIDE = -1002;
    private static final int MIN = Integer.MIN_VALUE, MAX = Integer.MAX_VALUE;
    private static final int CELLS = 144;

    public static void main(String[] args) {
        cellsFrom0To143();
        rowsAndColumnsDoNotWrapAround();
        cornersHaveTwoSides();
        noWayIsSlanting();
        pricesFrom0To9();
        pricesAreOneAtFirst();
        aPriceOf0IsAWall();
        noWallOnTheWay();
        noWallAtTheEnd();
        perhapsAWallAtTheBeginning();
        theFirstCellCostsNothing();
        leastPriceAheadOfFewestCells();
        fewestCellsAheadOfLesserNumbers();
        theFirstCellThatDiffers();
        aNewObject();
        cheapestTellsNone();
        wayBeginsWith0();
        wayEnds();
        wayOfNoWay();
        fromACellToItself();
        theLongestWays();
        DUE.end();
    }

    private static void cellsFrom0To143() {
        DUE.sentence("THE FLOOR has 12 by 12 CELLS, CELL 12 y + x for x, y 0 .. 11");
        PipeHouse x = new PipeHouse();
        DUE.is("price(0, 1)", x.price(0, 1), 1);
        DUE.is("price(143, 1)", x.price(143, 1), 1);
        for (int none : new int[] {-1, -12, 144, 155, MIN, MAX}) {
            DUE.is("price(" + none + ", 1)", x.price(none, 1), UNKNOWN);
            DUE.is("cheapest(" + none + ", 0)", x.cheapest(none, 0), UNKNOWN);
            DUE.is("cheapest(0, " + none + ")", x.cheapest(0, none), UNKNOWN);
            DUE.is("way(" + none + ", 143, 0)", x.way(none, 143, 0), UNKNOWN);
            DUE.is("way(143, " + none + ", 0)", x.way(143, none, 0), UNKNOWN);
            DUE.is("main(" + none + ", 0)", x.main(none, 0), UNKNOWN);
        }
        DUE.is("cheapest(0, 143)", x.cheapest(0, 143), 22);
        DUE.is("cheapest(143, 0)", x.cheapest(143, 0), 22);
        DUE.is("main(0, 0)", x.main(0, 0), 0);
        DUE.is("hang(0, 143, 0)", x.hang(0, 143, 0), 1);
        DUE.is("hang(0, 144, 0)", x.hang(0, 144, 0), UNKNOWN);
        DUE.is("hang(0, -1, 0)", x.hang(0, -1, 0), UNKNOWN);
        DUE.is("main(143, 0)", x.main(143, 0), 2);
    }

    private static void rowsAndColumnsDoNotWrapAround() {
        DUE.sentence("each beside the one ahead (one more or less in x or in y)");
        PipeHouse x = new PipeHouse();
        DUE.is("cheapest(11, 12): the end of a row, and the next one", x.cheapest(11, 12), 12);
        DUE.is("cheapest(12, 11)", x.cheapest(12, 11), 12);
        DUE.is("cheapest(0, 11): both ends of a row", x.cheapest(0, 11), 11);
        DUE.is("cheapest(11, 0)", x.cheapest(11, 0), 11);
        DUE.is("cheapest(0, 132): both ends of a column", x.cheapest(0, 132), 11);
        DUE.is("cheapest(132, 0)", x.cheapest(132, 0), 11);
        DUE.is("cheapest(11, 132): two corners", x.cheapest(11, 132), 22);
        DUE.is("cheapest(131, 132)", x.cheapest(131, 132), 12);
        for (int cell = 0; cell < CELLS; cell++) {
            hasItsSidesAlone(cell);
        }
    }

    /** With a wall on each of its sides there is no way to a cell's sides on; into it from beside it costs its price. */
    private static void hasItsSidesAlone(int cell) {
        PipeHouse x = new PipeHouse();
        for (int other = 0; other < CELLS; other++) {
            if (areBeside(cell, other)) {
                DUE.is("cheapest(" + cell + ", " + other + "), a side", x.cheapest(cell, other), 1);
                x.price(other, 0);
            }
        }
        for (int other = 0; other < CELLS; other++) {
            if (other != cell) {
                int due = areBeside(cell, other) ? 1 : NONE;
                DUE.is("cheapest(" + other + ", " + cell + "), walled in", x.cheapest(other, cell), due);
            }
        }
    }

    private static boolean areBeside(int a, int b) {
        return Math.abs(a % 12 - b % 12) + Math.abs(a / 12 - b / 12) == 1;
    }

    private static void cornersHaveTwoSides() {
        DUE.sentence("each beside the one ahead (one more or less in x or in y)");
        int[][] corners = {{0, 1, 12}, {11, 10, 23}, {132, 120, 133}, {143, 131, 142}};
        for (int[] corner : corners) {
            PipeHouse x = new PipeHouse();
            x.price(corner[1], 0);
            DUE.is("one side of " + corner[0] + " is free", x.cheapest(corner[0], 65) > 0 ? 1 : 0, 1);
            x.price(corner[2], 0);
            DUE.is("no side of " + corner[0] + " is free", x.cheapest(corner[0], 65), NONE);
        }
    }

    private static void noWayIsSlanting() {
        DUE.sentence("one more or less in x or in y");
        for (int to : new int[] {52, 54, 76, 78}) {
            DUE.is("cheapest(65, " + to + ") alone", Scenes.only(65, to).cheapest(65, to), NONE);
            DUE.is("cheapest(65, " + to + ")", new PipeHouse().cheapest(65, to), 2);
        }
    }

    private static void pricesFrom0To9() {
        DUE.sentence("each has a PRICE (0 .. 9");
        PipeHouse x = new PipeHouse();
        DUE.is("price(7, 0): the least", x.price(7, 0), 1);
        DUE.is("price(7, 9): the greatest", x.price(7, 9), 0);
        DUE.is("price(7, -1)", x.price(7, -1), OUTSIDE);
        DUE.is("price(7, 10)", x.price(7, 10), OUTSIDE);
        DUE.is("price(7, MIN)", x.price(7, MIN), OUTSIDE);
        DUE.is("price(7, MAX)", x.price(7, MAX), OUTSIDE);
        DUE.is("price(7, 256): its last byte is 0", x.price(7, 256), OUTSIDE);
        DUE.is("price(7, 9) as it was", x.price(7, 9), 9);
        DUE.is("cheapest(6, 7)", x.cheapest(6, 7), 9);
    }

    private static void pricesAreOneAtFirst() {
        DUE.sentence("1 at first");
        PipeHouse x = new PipeHouse();
        for (int cell = 0; cell < CELLS; cell++) {
            DUE.is("price(" + cell + ", 9)", x.price(cell, 9), 1);
            DUE.is("price(" + cell + ", 9) again", x.price(cell, 9), 9);
        }
    }

    private static void aPriceOf0IsAWall() {
        DUE.sentence("0: a wall");
        PipeHouse x = Scenes.only(0, 1, 2);
        DUE.is("cheapest(0, 2)", x.cheapest(0, 2), 2);
        x.price(1, 0);
        DUE.is("cheapest(0, 2) through a 0", x.cheapest(0, 2), NONE);
        x.price(1, 1);
        DUE.is("cheapest(0, 2) through a 1", x.cheapest(0, 2), 2);
    }

    private static void noWallOnTheWay() {
        DUE.sentence("none a wall but perhaps the first");
        PipeHouse x = new PipeHouse();
        for (int y = 0; y < 12; y++) {
            x.price(12 * y + 6, 0);
        }
        DUE.is("cheapest(0, 11)", x.cheapest(0, 11), NONE);
        DUE.is("way(0, 11, 0)", x.way(0, 11, 0), NONE);
        x.price(138, 1);
        DUE.is("cheapest(0, 11) through a hole", x.cheapest(0, 11), 33);
    }

    private static void noWallAtTheEnd() {
        DUE.sentence("none a wall but perhaps the first");
        PipeHouse x = new PipeHouse();
        x.price(1, 0);
        DUE.is("cheapest(0, 1): beside it", x.cheapest(0, 1), NONE);
        DUE.is("way(0, 1, 0)", x.way(0, 1, 0), NONE);
        DUE.is("way(0, 1, 1)", x.way(0, 1, 1), NONE);
        x.price(0, 0);
        DUE.is("cheapest(0, 1): from a wall", x.cheapest(0, 1), NONE);
    }

    private static void perhapsAWallAtTheBeginning() {
        DUE.sentence("none a wall but perhaps the first");
        PipeHouse x = new PipeHouse();
        x.price(1, 0);
        DUE.is("cheapest(1, 0)", x.cheapest(1, 0), 1);
        DUE.is("way(1, 0, 0)", x.way(1, 0, 0), 1);
        DUE.is("way(1, 0, 1)", x.way(1, 0, 1), 0);
        x.price(2, 0);
        DUE.is("cheapest(1, 3): the next one is a wall, too", x.cheapest(1, 3), 4);
        DUE.is("way(1, 3, 1): around it", x.way(1, 3, 1), 13);
    }

    private static void theFirstCellCostsNothing() {
        DUE.sentence("its PRICE: the sum over all but the first");
        PipeHouse x = new PipeHouse();
        x.price(0, 9);
        x.price(1, 4);
        x.price(2, 7);
        x.price(12, 9);
        x.price(13, 9);
        x.price(14, 9);
        DUE.is("cheapest(0, 1): the last counts", x.cheapest(0, 1), 4);
        DUE.is("cheapest(1, 0)", x.cheapest(1, 0), 9);
        DUE.is("cheapest(0, 2): what is between counts", x.cheapest(0, 2), 11);
        DUE.is("cheapest(2, 0)", x.cheapest(2, 0), 13);
        DUE.is("cheapest(0, 0): one cell", x.cheapest(0, 0), 0);
    }

    private static void leastPriceAheadOfFewestCells() {
        DUE.sentence("THE WAY: of the least PRICE; of several that with the fewest CELLS");
        PipeHouse x = new PipeHouse();
        x.price(1, 4);
        wayIs(x, 0, 2, 0, 12, 13, 14, 2);
        x.price(1, 3);
        wayIs(x, 0, 2, 0, 1, 2);
        x.price(1, 2);
        wayIs(x, 0, 2, 0, 1, 2);
    }

    private static void fewestCellsAheadOfLesserNumbers() {
        DUE.sentence("of several that with the fewest CELLS; of these the one whose first CELL that differs has the lesser number");
        PipeHouse x = new PipeHouse();
        // From 25 on to 27: by 13 four steps of 1, by 26 two steps for 4, too.
        x.price(26, 3);
        wayIs(x, 25, 27, 25, 26, 27);
        x.price(26, 4);
        wayIs(x, 25, 27, 25, 13, 14, 15, 27);
    }

    private static void theFirstCellThatDiffers() {
        DUE.sentence("of these the one whose first CELL that differs has the lesser number");
        PipeHouse x = new PipeHouse();
        wayIs(x, 65, 78, 65, 66, 78);
        wayIs(x, 65, 76, 65, 64, 76);
        wayIs(x, 65, 54, 65, 53, 54);
        wayIs(x, 65, 52, 65, 53, 52);
        // They differ in their third cell first: 67 or 78; the sum or the last ones do not count.
        wayIs(Scenes.only(65, 66, 67, 78, 79), 65, 79, 65, 66, 67, 79);
        // Around by the left or by the right, 7 steps each: the left one has the lesser first step, the right one all others.
        PipeHouse y = Scenes.only(13, 12, 24, 36, 48, 49, 50, 38, 14, 15, 16, 28, 40, 39);
        wayIs(y, 13, 38, 13, 12, 24, 36, 48, 49, 50, 38);
        y.price(12, 2);
        wayIs(y, 13, 38, 13, 14, 15, 16, 28, 40, 39, 38);
    }

    private static void aNewObject() {
        DUE.sentence("No walls, no NODES, all as at first.");
        PipeHouse x = new PipeHouse();
        for (int cell = 1; cell < CELLS; cell++) {
            DUE.is("cheapest(0, " + cell + ")", x.cheapest(0, cell), cell / 12 + cell % 12);
        }
        DUE.is("node(0, 0)", x.node(0, 0), UNKNOWN);
        DUE.is("run(0, 0)", x.run(0, 0), UNKNOWN);
        DUE.is("level(0, 0)", x.level(0, 0), UNKNOWN);
        DUE.is("units(0, 0)", x.units(0, 0), UNKNOWN);
        DUE.is("air(0, true)", x.air(0, true), UNKNOWN);
        DUE.is("cut(0)", x.cut(0), UNKNOWN);
        DUE.is("hang(0, 1, 1)", x.hang(0, 1, 1), UNKNOWN);
        DUE.is("lay()", x.lay(), 0);
        DUE.is("rule(0, 10)", x.rule(0, 10), 10);
        DUE.is("rule(1, 500)", x.rule(1, 500), 500);
        DUE.is("rule(2, 150)", x.rule(2, 150), 150);
        DUE.is("rule(3, 600)", x.rule(3, 600), 600);
        int[] limits = {2, 6, 12, 24, 60, 200};
        for (int s = 0; s < limits.length; s++) {
            DUE.is("limit(" + s + ", .)", x.limit(s, limits[s]), limits[s]);
        }
        PipeHouse used = Scenes.comb(0, 5);
        used.rule(0, 20);
        used.price(0, 0);
        DUE.is("another object's count(0)", x.count(0), 0);
        DUE.is("another object's node 0 is the first", x.main(0, 0), 0);
    }

    private static void cheapestTellsNone() {
        DUE.sentence("PRICE of THE WAY between two CELLS; NONE: there is none.");
        PipeHouse x = Scenes.only(0, 1, 143);
        DUE.is("cheapest(0, 1)", x.cheapest(0, 1), 1);
        DUE.is("cheapest(0, 143)", x.cheapest(0, 143), NONE);
        DUE.is("cheapest(143, 0)", x.cheapest(143, 0), NONE);
        DUE.is("cheapest(143, 143)", x.cheapest(143, 143), 0);
    }

    private static void wayBeginsWith0() {
        DUE.sentence("CELL i of THE WAY between two CELLS (0 the first)");
        PipeHouse x = new PipeHouse();
        DUE.is("way(5, 17, 0)", x.way(5, 17, 0), 5);
        DUE.is("way(5, 17, 1)", x.way(5, 17, 1), 17);
        DUE.is("way(5, 17, -1)", x.way(5, 17, -1), NONE);
        DUE.is("way(5, 17, MIN)", x.way(5, 17, MIN), NONE);
    }

    private static void wayEnds() {
        DUE.sentence("NONE: it has none such");
        PipeHouse x = new PipeHouse();
        x.way(0, 143, 0);
        DUE.is("way(0, 143, 22)", x.way(0, 143, 22), 143);
        DUE.is("way(0, 143, 23)", x.way(0, 143, 23), NONE);
        DUE.is("way(5, 17, 2): a longer one was asked ahead", x.way(5, 17, 2), NONE);
        DUE.is("way(5, 17, 143)", x.way(5, 17, 143), NONE);
        DUE.is("way(5, 17, 144)", x.way(5, 17, 144), NONE);
        DUE.is("way(5, 17, MAX)", x.way(5, 17, MAX), NONE);
    }

    private static void wayOfNoWay() {
        DUE.sentence("or there is no WAY");
        PipeHouse x = Scenes.only(0, 1, 143);
        DUE.is("way(0, 1, 1)", x.way(0, 1, 1), 1);
        for (int i = -1; i < 3; i++) {
            DUE.is("way(0, 143, " + i + ")", x.way(0, 143, i), NONE);
        }
    }

    private static void fromACellToItself() {
        DUE.sentence("its PRICE: the sum over all but the first");
        PipeHouse x = new PipeHouse();
        x.price(143, 0);
        for (int cell : new int[] {0, 11, 132, 143}) {
            DUE.is("cheapest(" + cell + ", " + cell + ")", x.cheapest(cell, cell), 0);
            wayIs(x, cell, cell, cell);
        }
    }

    /** The snake at the highest price: the sum is the greatest that these tests reach, each cell stands in its place. */
    private static void theLongestWays() {
        DUE.sentence("a row of CELLS, each beside the one ahead");
        PipeHouse x = Scenes.snake();
        for (int i = 0; i <= Scenes.SNAKE_END; i++) {
            DUE.is("way(0, 132, " + i + ")", x.way(0, 132, i), Scenes.snakeCell(i));
            DUE.is("way(132, 0, " + i + ")", x.way(132, 0, i), Scenes.snakeCell(Scenes.SNAKE_END - i));
        }
        DUE.is("way(0, 132, 78)", x.way(0, 132, 78), NONE);
        DUE.is("cheapest(0, 132)", x.cheapest(0, 132), 77);
        for (int i = 0; i <= Scenes.SNAKE_END; i++) {
            x.price(Scenes.snakeCell(i), 9);
        }
        DUE.is("cheapest(0, 132) at 9", x.cheapest(0, 132), 9 * 77);
        DUE.is("cheapest(132, 0) at 9", x.cheapest(132, 0), 9 * 77);
    }

    private static void wayIs(PipeHouse x, int from, int to, int... cells) {
        for (int i = 0; i < cells.length; i++) {
            DUE.is("way(" + from + ", " + to + ", " + i + ")", x.way(from, to, i), cells[i]);
        }
        DUE.is("way(" + from + ", " + to + ") ends", x.way(from, to, cells.length), NONE);
    }
}
