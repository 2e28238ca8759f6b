import java.util.ArrayList;
import java.util.List;

/**
 * THE WAY by its definition alone: on small pieces of the floor all rows of cells that are ways are written down one by
 * one, and the best of them is looked for. No search that the class might share with a test has a hand in it.
 */
public final class AllWaysTest {
    private static final Due DUE = new Due("AllWaysTest");
    private static final int NONE = -1, SIDE = 12, FLOORS = 400, QUESTIONS = 12;

    private static long seed = 20261119;

    private final int left, top, width, height;
    private final int[] prices = new int[SIDE * SIDE];
    private final PipeHouse x = new PipeHouse();
    private List<Integer> best;

    /** A piece of the floor with prices of its own; all around it is a wall. */
    private AllWaysTest(int left, int top, int width, int height, int most) {
        this.left = left;
        this.top = top;
        this.width = width;
        this.height = height;
        for (int cell = 0; cell < prices.length; cell++) {
            prices[cell] = isInside(cell) ? below(5) == 0 ? 0 : 1 + below(most) : 0;
            x.price(cell, prices[cell]);
        }
    }

    public static void main(String[] args) {
        DUE.sentence("THE WAY: of the least PRICE; of several that with the fewest CELLS; of these the one whose first CELL"
            + " that differs has the lesser number.");
        for (int k = 0; k < FLOORS; k++) {
            int width = 2 + below(4), height = 20 / width;
            int[] most = {1, 2, 3, 9};
            int leftMost = SIDE - width, topMost = SIDE - height;
            // Every other piece lies in a corner of the floor, where its ends are the floor's.
            int left = k % 2 == 0 ? leftMost * below(2) : below(leftMost + 1);
            int top = k % 2 == 0 ? topMost * below(2) : below(topMost + 1);
            new AllWaysTest(left, top, width, height, most[below(most.length)]).askSome();
        }
        DUE.end();
    }

    private static int below(int bound) {
        seed = seed * 6364136223846793005L + 1442695040888963407L;
        return (int) ((seed >>> 33) % bound);
    }

    private boolean isInside(int cell) {
        int column = cell % SIDE - left, row = cell / SIDE - top;
        return column >= 0 && column < width && row >= 0 && row < height;
    }

    private int someCell() {
        return SIDE * (top + below(height)) + left + below(width);
    }

    private void askSome() {
        for (int k = 0; k < QUESTIONS; k++) {
            int from = someCell(), to = someCell();
            if (from != to) {
                ask(from, to);
            }
        }
    }

    private void ask(int from, int to) {
        best = null;
        List<Integer> row = new ArrayList<>();
        row.add(from);
        goOn(row, to);
        String ends = from + ", " + to;
        DUE.is("cheapest(" + ends + ")", x.cheapest(from, to), best == null ? NONE : priceOf(best));
        int cells = best == null ? 0 : best.size();
        for (int i = 0; i <= cells; i++) {
            DUE.is("way(" + ends + ", " + i + ")", x.way(from, to, i), i < cells ? best.get(i) : NONE);
        }
    }

    /** A way that comes into a cell twice is dearer than without the round between: it need not be written down. */
    private void goOn(List<Integer> row, int to) {
        int last = row.get(row.size() - 1);
        if (last == to) {
            if (best == null || isBetter(row, best)) {
                best = new ArrayList<>(row);
            }
            return;
        }
        for (int cell = 0; cell < prices.length; cell++) {
            if (prices[cell] != 0 && areBeside(last, cell) && !row.contains(cell)) {
                row.add(cell);
                goOn(row, to);
                row.remove(row.size() - 1);
            }
        }
    }

    private static boolean areBeside(int a, int b) {
        int across = Math.abs(a % SIDE - b % SIDE), down = Math.abs(a / SIDE - b / SIDE);
        return across + down == 1;
    }

    private int priceOf(List<Integer> row) {
        int sum = 0;
        for (int i = 1; i < row.size(); i++) {
            sum += prices[row.get(i)];
        }
        return sum;
    }

    private boolean isBetter(List<Integer> a, List<Integer> b) {
        if (priceOf(a) != priceOf(b)) {
            return priceOf(a) < priceOf(b);
        }
        if (a.size() != b.size()) {
            return a.size() < b.size();
        }
        int i = 0;
        while (a.get(i).equals(b.get(i))) {
            i++;
            if (i == a.size()) {
                return false;
            }
        }
        return a.get(i) < b.get(i);
    }
}
