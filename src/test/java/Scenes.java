/** Houses that several tests begin with. */
final class Scenes {
    /** The last place on the snake: its way has so many steps. */
    static final int SNAKE_END = 77;
    private static final int SIDE = 12, TWO_ROWS = 13;

    private Scenes() {
    }

    /** One way alone leads through the floor, from 0 to 132: every other row is a wall but for a gate at one end. */
    static PipeHouse snake() {
        PipeHouse x = new PipeHouse();
        for (int y = 1; y < SIDE; y += 2) {
            for (int c = 0; c < SIDE; c++) {
                if (c != gateOf(y)) {
                    x.price(SIDE * y + c, 0);
                }
            }
        }
        return x;
    }

    private static int gateOf(int y) {
        return y % 4 == 1 ? SIDE - 1 : 0;
    }

    /** The cell at a place of the snake, 0 the first. */
    static int snakeCell(int place) {
        int y = place / TWO_ROWS * 2;
        int along = place % TWO_ROWS;
        if (along == SIDE) {
            return SIDE * (y + 1) + gateOf(y + 1);
        }
        return SIDE * y + (y % 4 == 0 ? along : SIDE - 1 - along);
    }

    /** A floor that is a wall but for the cells told. */
    static PipeHouse only(int... cells) {
        boolean[] free = new boolean[SIDE * SIDE];
        for (int cell : cells) {
            free[cell] = true;
        }
        PipeHouse x = new PipeHouse();
        for (int cell = 0; cell < free.length; cell++) {
            if (!free[cell]) {
                x.price(cell, 0);
            }
        }
        return x;
    }

    /** A main of a sort in cell 0, and so many nodes with a unit each in the cells 1, 2, .. of its row, all hung on it. */
    static PipeHouse comb(int sort, int nodes) {
        PipeHouse x = new PipeHouse();
        x.main(0, sort);
        for (int n = 1; n <= nodes; n++) {
            x.hang(0, n, 1);
        }
        return x;
    }

    /** A run along row 1 from 18 to a main of drains in 12, one down column 3 from 39 to a main in 3; they meet in 15. */
    static PipeHouse crossing(int secondSort) {
        PipeHouse x = new PipeHouse();
        x.main(12, 0);
        x.hang(0, 18, 1);
        x.main(3, secondSort);
        x.hang(2, 39, 1);
        return x;
    }

    /** Loads 1 to 5 have the sizes 0 to 4, any above has none but in size 5, which ends at 6. */
    static void tightLimits(PipeHouse x) {
        for (int s = 0; s < 6; s++) {
            x.limit(s, s + 1);
        }
    }
}
