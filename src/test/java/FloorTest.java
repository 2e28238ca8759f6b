/** Promises 1 to 4: a new object, price, cheapest, way. */
public final class FloorTest {
    private static final Due DUE = new Due("FloorTest");
    private static final int NONE = -1, UNKNOWN = -1001, OUTSIDE = -1002;
    private static final int MIN = Integer.MIN_VALUE, MAX = Integer.MAX_VALUE;

    public static void main(String[] args) {
        aNewObject();
        objectsAreApart();
        priceTellsWhatItWas();
        priceRefuses();
        cheapestGoesAround();
        cheapestMeetsWalls();
        cheapestRefuses();
        wayTakesFewestCells();
        wayTakesLesserCells();
        wayOfOneCell();
        wayRefuses();
        aLongWay();
        theDearestWay();
        dearAndCheapSideBySide();
        aWallAsNearAsTheWay();
        DUE.end();
    }

    private static void aNewObject() {
        PipeHouse x = new PipeHouse();
        for (int what = 0; what <= 7; what++) {
            DUE.is("new: count(" + what + ")", x.count(what), 0);
        }
        DUE.is("new: count(8)", x.count(8), NONE);
        DUE.is("new: cut(0)", x.cut(0), UNKNOWN);
        DUE.is("new: lay()", x.lay(), 0);
        for (int what = 0; what <= 2; what++) {
            DUE.is("new: clash(" + what + ")", x.clash(what), NONE);
        }
        for (int s = 0; s <= 5; s++) {
            for (int what = 0; what <= 3; what++) {
                DUE.is("new: bars(" + s + ", " + what + ")", x.bars(s, what), 0);
            }
        }
        int[] rules = {10, 500, 150, 600};
        for (int what = 0; what < rules.length; what++) {
            DUE.is("new: rule(" + what + ")", x.rule(what, rules[what]), rules[what]);
        }
        int[] limits = {2, 6, 12, 24, 60, 200};
        for (int s = 0; s < limits.length; s++) {
            DUE.is("new: limit(" + s + ")", x.limit(s, limits[s]), limits[s]);
        }
        for (int cell = 0; cell < 144; cell++) {
            DUE.is("new: price(" + cell + ")", x.price(cell, 2), 1);
        }
    }

    private static void objectsAreApart() {
        PipeHouse x = new PipeHouse();
        PipeHouse y = new PipeHouse();
        x.price(5, 0);
        x.main(0, 0);
        x.rule(0, 20);
        x.limit(5, 300);
        DUE.is("apart: price(5)", y.price(5, 1), 1);
        DUE.is("apart: count(0)", y.count(0), 0);
        DUE.is("apart: rule(0)", y.rule(0, 10), 10);
        DUE.is("apart: limit(5)", y.limit(5, 200), 200);
    }

    private static void priceTellsWhatItWas() {
        PipeHouse x = new PipeHouse();
        DUE.is("price(0, 0)", x.price(0, 0), 1);
        DUE.is("price(0, 9)", x.price(0, 9), 0);
        DUE.is("price(0, 9) again", x.price(0, 9), 9);
        DUE.is("price(143, 5)", x.price(143, 5), 1);
        DUE.is("price(143, 1)", x.price(143, 1), 5);
        DUE.is("price(1, 1): the others stay", x.price(1, 1), 1);
    }

    private static void priceRefuses() {
        PipeHouse x = new PipeHouse();
        DUE.is("price(-1, 1)", x.price(-1, 1), UNKNOWN);
        DUE.is("price(144, 1)", x.price(144, 1), UNKNOWN);
        DUE.is("price(MIN, 1)", x.price(MIN, 1), UNKNOWN);
        DUE.is("price(MAX, 1)", x.price(MAX, 1), UNKNOWN);
        DUE.is("price(144, 10): UNKNOWN first", x.price(144, 10), UNKNOWN);
        DUE.is("price(7, 10)", x.price(7, 10), OUTSIDE);
        DUE.is("price(7, -1)", x.price(7, -1), OUTSIDE);
        DUE.is("price(7, MIN)", x.price(7, MIN), OUTSIDE);
        DUE.is("price(7, MAX)", x.price(7, MAX), OUTSIDE);
        DUE.is("price(7, 2): what was refused changed nothing", x.price(7, 2), 1);
    }

    private static void cheapestGoesAround() {
        PipeHouse x = new PipeHouse();
        DUE.is("cheapest(0, 143)", x.cheapest(0, 143), 22);
        DUE.is("cheapest(11, 12): rows do not join", x.cheapest(11, 12), 12);
        x.price(1, 9);
        DUE.is("cheapest(0, 2) around", x.cheapest(0, 2), 4);
        DUE.is("cheapest(2, 0) around", x.cheapest(2, 0), 4);
        DUE.is("cheapest(0, 1): into the dear one", x.cheapest(0, 1), 9);
        DUE.is("cheapest(1, 0): the first is free", x.cheapest(1, 0), 1);
        x.price(1, 2);
        DUE.is("cheapest(0, 2) straight", x.cheapest(0, 2), 3);
        x.price(0, 9);
        DUE.is("cheapest(0, 2): its own price does not count", x.cheapest(0, 2), 3);
        DUE.is("cheapest(2, 0)", x.cheapest(2, 0), 11);
        x.price(12, 7);
        x.price(1, 8);
        DUE.is("cheapest(0, 2): 8 + 1, or 7 + 1 + 1 + 1", x.cheapest(0, 2), 9);
    }

    private static void cheapestMeetsWalls() {
        PipeHouse x = new PipeHouse();
        x.price(0, 0);
        DUE.is("cheapest(0, 2) out of a wall", x.cheapest(0, 2), 2);
        DUE.is("cheapest(2, 0) into a wall", x.cheapest(2, 0), NONE);
        DUE.is("cheapest(0, 0) in a wall", x.cheapest(0, 0), 0);
        x.price(0, 1);
        for (int y = 0; y < 12; y++) {
            x.price(12 * y + 6, 0);
        }
        DUE.is("cheapest(0, 11) behind a wall", x.cheapest(0, 11), NONE);
        DUE.is("cheapest(11, 0) behind a wall", x.cheapest(11, 0), NONE);
        DUE.is("cheapest(6, 11) out of the wall", x.cheapest(6, 11), 5);
        DUE.is("cheapest(6, 0) out of the wall", x.cheapest(6, 0), 6);
        DUE.is("cheapest(6, 18) along the wall", x.cheapest(6, 18), NONE);
        x.price(138, 3);
        DUE.is("cheapest(0, 11) through a hole", x.cheapest(0, 11), 35);
    }

    private static void cheapestRefuses() {
        PipeHouse x = new PipeHouse();
        DUE.is("cheapest(-1, 0)", x.cheapest(-1, 0), UNKNOWN);
        DUE.is("cheapest(0, -1)", x.cheapest(0, -1), UNKNOWN);
        DUE.is("cheapest(144, 0)", x.cheapest(144, 0), UNKNOWN);
        DUE.is("cheapest(0, 144)", x.cheapest(0, 144), UNKNOWN);
        DUE.is("cheapest(MIN, MAX)", x.cheapest(MIN, MAX), UNKNOWN);
    }

    private static void wayTakesFewestCells() {
        PipeHouse x = new PipeHouse();
        x.price(1, 3);
        wayIs(x, 0, 2, 0, 1, 2);
        x.price(1, 4);
        wayIs(x, 0, 2, 0, 12, 13, 14, 2);
        // Fewest CELLS come ahead of the lesser CELL: 25, 13, 14, 15, 27 costs 4, too.
        PipeHouse y = new PipeHouse();
        y.price(26, 3);
        wayIs(y, 25, 27, 25, 26, 27);
    }

    private static void wayTakesLesserCells() {
        PipeHouse x = new PipeHouse();
        wayIs(x, 0, 13, 0, 1, 13);
        wayIs(x, 13, 0, 13, 1, 0);
        wayIs(x, 1, 12, 1, 0, 12);
        wayIs(x, 12, 1, 12, 0, 1);
        wayIs(x, 0, 26, 0, 1, 2, 14, 26);
        wayIs(x, 26, 0, 26, 14, 2, 1, 0);
        wayIs(x, 2, 24, 2, 1, 0, 12, 24);
        wayIs(x, 24, 2, 24, 12, 0, 1, 2);
        // The lesser first step wins, though the other way's last steps are lesser.
        x.price(2, 5);
        wayIs(x, 0, 26, 0, 1, 13, 14, 26);
        x.price(1, 0);
        wayIs(x, 0, 26, 0, 12, 13, 14, 26);
    }

    private static void wayOfOneCell() {
        PipeHouse x = new PipeHouse();
        wayIs(x, 77, 77, 77);
        x.price(77, 0);
        wayIs(x, 77, 77, 77);
        wayIs(x, 77, 78, 77, 78);
        wayIs(x, 78, 77);
    }

    private static void wayRefuses() {
        PipeHouse x = new PipeHouse();
        DUE.is("way(-1, 0, 0)", x.way(-1, 0, 0), UNKNOWN);
        DUE.is("way(0, 144, 0)", x.way(0, 144, 0), UNKNOWN);
        DUE.is("way(144, 144, 0)", x.way(144, 144, 0), UNKNOWN);
        DUE.is("way(0, 1, -1)", x.way(0, 1, -1), NONE);
        DUE.is("way(0, 1, 2)", x.way(0, 1, 2), NONE);
        DUE.is("way(0, 1, MIN)", x.way(0, 1, MIN), NONE);
        DUE.is("way(0, 1, MAX)", x.way(0, 1, MAX), NONE);
    }

    /** A snake through the whole floor: every other row is a wall but for one end. */
    private static void aLongWay() {
        PipeHouse x = new PipeHouse();
        for (int y = 1; y < 12; y += 2) {
            for (int c = 0; c < 12; c++) {
                x.price(12 * y + c, c == (y % 4 == 1 ? 11 : 0) ? 9 : 0);
            }
        }
        // Six rows with 11 steps in each, and five gates of price 9 with a step behind them.
        DUE.is("snake: cheapest(0, 120)", x.cheapest(0, 120), 6 * 11 + 5 * (9 + 1));
        DUE.is("snake: way(0, 120, 11)", x.way(0, 120, 11), 11);
        DUE.is("snake: way(0, 120, 12)", x.way(0, 120, 12), 23);
        DUE.is("snake: way(0, 120, 65)", x.way(0, 120, 65), 131);
        DUE.is("snake: way(0, 120, 76)", x.way(0, 120, 76), 120);
        DUE.is("snake: way(0, 120, 77)", x.way(0, 120, 77), NONE);
        DUE.is("snake: cheapest(120, 0)", x.cheapest(120, 0), 116);
    }

    /** The same snake, with the highest price all along. */
    private static void theDearestWay() {
        PipeHouse x = new PipeHouse();
        for (int y = 0; y < 12; y++) {
            for (int c = 0; c < 12; c++) {
                boolean gate = c == (y % 4 == 1 ? 11 : 0);
                x.price(12 * y + c, y % 2 == 0 || gate ? 9 : 0);
            }
        }
        DUE.is("dearest: cheapest(0, 132)", x.cheapest(0, 132), (6 * 11 + 5 * 2 + 1) * 9);
        DUE.is("dearest: cheapest(132, 0)", x.cheapest(132, 0), (6 * 11 + 5 * 2 + 1) * 9);
        DUE.is("dearest: way(132, 0, 77)", x.way(132, 0, 77), 0);
        DUE.is("dearest: way(132, 0, 78)", x.way(132, 0, 78), NONE);
    }

    /** Two corridors to the same goal: a short one of the highest price, a long one of the least. */
    private static void dearAndCheapSideBySide() {
        PipeHouse x = new PipeHouse();
        for (int c = 0; c < 12; c++) {
            x.price(12 + c, c == 0 || c == 11 ? 1 : 0);
            x.price(c, 9);
            x.price(36 + c, 0);
        }
        // Along row 0: 11 cells of 9. Through row 2: down 2, along 11, up 1, and the goal's own 9.
        DUE.is("side by side: cheapest(0, 11)", x.cheapest(0, 11), 2 + 11 + 1 + 9);
        DUE.is("side by side: cheapest(0, 1)", x.cheapest(0, 1), 9);
        DUE.is("side by side: cheapest(0, 2)", x.cheapest(0, 2), 18);
        DUE.is("side by side: cheapest(0, 3)", x.cheapest(0, 3), 27);
        DUE.is("side by side: cheapest(24, 11)", x.cheapest(24, 11), 11 + 1 + 9);
        for (int c = 1; c < 12; c++) {
            x.price(24 + c, 8);
        }
        DUE.is("side by side: cheapest(0, 11), 8 for 9", x.cheapest(0, 11), 99);
        DUE.is("side by side: way(0, 11, 1), 8 for 9", x.way(0, 11, 1), 1);
        for (int c = 1; c < 12; c++) {
            x.price(24 + c, 7);
        }
        // 2 + 77 + 1 + 9 = 89 is less than 99.
        DUE.is("side by side: cheapest(0, 11), 7 for 9", x.cheapest(0, 11), 89);
        DUE.is("side by side: way(0, 11, 1), 7 for 9", x.way(0, 11, 1), 12);
    }

    /** A ring of 8 cells to 24: the wall in 1 is by one step nearer, for the same price, than 2 beside it. */
    private static void aWallAsNearAsTheWay() {
        PipeHouse x = new PipeHouse();
        for (int cell : new int[] {1, 3, 13, 15, 27, 36, 37, 38}) {
            x.price(cell, 0);
        }
        x.price(12, 2);
        wayIs(x, 1, 24, 1, 0, 12, 24);
        wayIs(x, 2, 24, 2, 14, 26, 25, 24);
        DUE.is("ring: cheapest(1, 24)", x.cheapest(1, 24), 4);
        DUE.is("ring: cheapest(2, 24)", x.cheapest(2, 24), 4);
    }

    private static void wayIs(PipeHouse x, int from, int to, int... cells) {
        for (int i = 0; i < cells.length; i++) {
            DUE.is("way(" + from + ", " + to + ", " + i + ")", x.way(from, to, i), cells[i]);
        }
        DUE.is("way(" + from + ", " + to + ") ends", x.way(from, to, cells.length), NONE);
    }
}
