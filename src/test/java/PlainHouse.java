import java.util.ArrayList;
import java.util.Arrays;
import java.util.Collections;
import java.util.HashMap;
import java.util.List;
import java.util.Map;

/**
 * The document once more, word for word and without any care for speed, to compare the class with:
 * ways are compared cell by cell, trees are walked by recursion, bars are cut in every way there is.
 */
final class PlainHouse {
    static final int NONE = -1, UNKNOWN = -1001, OUTSIDE = -1002, NOT = -1003, FULL = -1004;

    private static final class Knot {
        int cell, units, sort;
        boolean aired;
        Knot above;
        List<Integer> run = new ArrayList<>();
    }

    private final int[] prices = new int[144];
    private final Map<Integer, List<List<Integer>>> waysToGoals = new HashMap<>();
    private final List<Knot> knots = new ArrayList<>();
    private final int[] rules = {10, 500, 150, 600};
    private final int[] limits = {2, 6, 12, 24, 60, 200};

    PlainHouse() {
        Arrays.fill(prices, 1);
    }

    // ---- the floor

    int price(int cell, int v) {
        if (cell < 0 || cell > 143) return UNKNOWN;
        if (v < 0 || v > 9) return OUTSIDE;
        int was = prices[cell];
        prices[cell] = v;
        waysToGoals.clear();
        return was;
    }

    int cheapest(int from, int to) {
        if (from < 0 || from > 143 || to < 0 || to > 143) return UNKNOWN;
        List<Integer> way = theWay(from, to);
        return way == null ? NONE : priceOf(way);
    }

    int way(int from, int to, int i) {
        if (from < 0 || from > 143 || to < 0 || to > 143) return UNKNOWN;
        List<Integer> way = theWay(from, to);
        return way == null || i < 0 || i >= way.size() ? NONE : way.get(i);
    }

    private int priceOf(List<Integer> way) {
        int sum = 0;
        for (int i = 1; i < way.size(); i++) sum += prices[way.get(i)];
        return sum;
    }

    private List<Integer> theWay(int from, int to) {
        if (from == to) return List.of(from);
        if (!waysToGoals.containsKey(to)) waysToGoals.put(to, waysTo(to));
        return waysToGoals.get(to).get(from);
    }

    /** Betters the ways of all cells to one goal, through their neighbours' ways, until none gets better. */
    private List<List<Integer>> waysTo(int to) {
        List<List<Integer>> ways = new ArrayList<>(Collections.nCopies(144, null));
        if (prices[to] > 0) ways.set(to, List.of(to));
        boolean better = true;
        while (better) {
            better = false;
            for (int c = 0; c < 144; c++) {
                for (int d : new int[] {c - 12, c - 1, c + 1, c + 12}) {
                    if (c == to || !areBeside(c, d) || prices[d] == 0 || ways.get(d) == null) continue;
                    List<Integer> through = new ArrayList<>();
                    through.add(c);
                    through.addAll(ways.get(d));
                    if (isBetter(through, ways.get(c))) {
                        ways.set(c, through);
                        better = true;
                    }
                }
            }
        }
        return ways;
    }

    private static boolean areBeside(int a, int b) {
        return b >= 0 && b < 144 && Math.abs(a % 12 - b % 12) + Math.abs(a / 12 - b / 12) == 1;
    }

    private boolean isBetter(List<Integer> a, List<Integer> b) {
        if (b == null) return true;
        if (priceOf(a) != priceOf(b)) return priceOf(a) < priceOf(b);
        if (a.size() != b.size()) return a.size() < b.size();
        for (int i = 0; i < a.size(); i++) {
            if (!a.get(i).equals(b.get(i))) return a.get(i) < b.get(i);
        }
        return false;
    }

    // ---- nodes

    private boolean isKnown(int n) {
        return n >= 0 && n < knots.size();
    }

    int main(int cell, int sort) {
        if (cell < 0 || cell > 143) return UNKNOWN;
        if (sort != 0 && sort != 1) return OUTSIDE;
        if (knots.size() == 24) return FULL;
        Knot k = new Knot();
        k.cell = cell;
        k.sort = sort;
        k.aired = sort == 0;
        knots.add(k);
        return knots.size() - 1;
    }

    int hang(int n, int cell, int units) {
        if (!isKnown(n) || cell < 0 || cell > 143) return UNKNOWN;
        if (units < 0 || units > 50) return OUTSIDE;
        Knot above = knots.get(n);
        if (above.cell == cell || theWay(cell, above.cell) == null) return NOT;
        if (knots.size() == 24) return FULL;
        Knot k = new Knot();
        k.cell = cell;
        k.units = units;
        k.above = above;
        k.sort = above.sort;
        k.run = theWay(cell, above.cell);
        knots.add(k);
        return knots.size() - 1;
    }

    int units(int n, int v) {
        if (!isKnown(n)) return UNKNOWN;
        if (v < 0 || v > 50) return OUTSIDE;
        int was = knots.get(n).units;
        knots.get(n).units = v;
        return was;
    }

    int air(int n, boolean on) {
        if (!isKnown(n)) return UNKNOWN;
        Knot k = knots.get(n);
        if (k.above == null || k.sort == 1) return NOT;
        int was = k.aired ? 1 : 0;
        k.aired = on;
        return was;
    }

    int cut(int n) {
        if (!isKnown(n)) return UNKNOWN;
        int went = 0;
        while (knots.size() > n) {
            knots.remove(knots.size() - 1);
            went++;
        }
        return went;
    }

    int lay() {
        int other = 0;
        for (Knot k : knots) {
            if (k.above == null) continue;
            List<Integer> way = theWay(k.cell, k.above.cell);
            if (way == null) continue;
            if (!way.equals(k.run)) other++;
            k.run = way;
        }
        return other;
    }

    int rule(int what, int v) {
        int[][] bounds = {{1, 20}, {0, 2000}, {1, 500}, {50, 2000}};
        if (what < 0 || what > 3 || v < bounds[what][0] || v > bounds[what][1]) return OUTSIDE;
        int was = rules[what];
        rules[what] = v;
        return was;
    }

    int limit(int s, int v) {
        if (s < 0 || s > 5 || v < 1 || v > 2000) return OUTSIDE;
        int was = limits[s];
        limits[s] = v;
        for (int i = 1; i < 6; i++) {
            if (limits[i] <= limits[i - 1]) {
                limits[s] = was;
                return NOT;
            }
        }
        return was;
    }

    private int loadOf(Knot k) {
        int load = k.units;
        for (Knot h : knots) if (h.above == k) load += loadOf(h);
        return load;
    }

    private int lengthOf(Knot k) {
        return k.above == null ? 0 : (k.run.size() - 1) * 50;
    }

    private int turnsOf(Knot k) {
        int turns = 0;
        for (int i = 0; i + 2 < k.run.size(); i++) {
            int a = k.run.get(i), b = k.run.get(i + 1), c = k.run.get(i + 2);
            boolean inRow = a / 12 == b / 12 && b / 12 == c / 12;
            boolean inColumn = a % 12 == b % 12 && b % 12 == c % 12;
            if (!inRow && !inColumn) turns++;
        }
        return turns;
    }

    private int sizeOf(Knot k) {
        int least = 0;
        for (Knot h : knots) {
            if (h.above != k) continue;
            int s = sizeOf(h);
            if (s == NONE) return NONE;
            if (s > least) least = s;
        }
        if (k.above == null) return least;
        int load = loadOf(k);
        for (int s = 0; s < 6; s++) if (s >= least && load <= limits[s]) return s;
        return NONE;
    }

    private int levelOf(Knot k, int i) {
        if (k.above == null || k.sort == 1) return 0;
        return levelOf(k.above, 0) + (k.run.size() - 1 - i) * rules[0] * 5;
    }

    private boolean hasTrap(Knot k) {
        return k.sort == 0 && k.units > 0;
    }

    private boolean isSafe(Knot k) {
        if (!hasTrap(k)) return false;
        if (k.above == null) return true;
        if (sizeOf(k) == NONE) return false;
        int length = 0;
        for (Knot at = k; !at.aired; at = at.above) length += lengthOf(at);
        return length <= rules[2] * (sizeOf(k) + 1);
    }

    private int secondsOf(Knot k) {
        if (k.sort == 0 || k.above == null || k.units == 0) return NONE;
        int drops = 0;
        for (Knot at = k; at.above != null; at = at.above) {
            int s = sizeOf(at);
            if (s == NONE) return NONE;
            drops += lengthOf(at) * (s + 1) * (s + 1);
        }
        return drops / (40 * k.units);
    }

    int node(int n, int what) {
        if (!isKnown(n)) return UNKNOWN;
        Knot k = knots.get(n);
        switch (what) {
            case 0: return k.cell;
            case 1: return k.above == null ? NONE : knots.indexOf(k.above);
            case 2: return k.sort;
            case 3: return k.units;
            case 4: return k.aired ? 1 : 0;
            case 5: return loadOf(k);
            case 6: return lengthOf(k);
            case 7: return turnsOf(k);
            case 8: return sizeOf(k);
            case 9: return levelOf(k, 0);
            case 10: return isSafe(k) ? 1 : 0;
            case 11: return secondsOf(k);
            default: return OUTSIDE;
        }
    }

    int run(int n, int i) {
        if (!isKnown(n)) return UNKNOWN;
        Knot k = knots.get(n);
        return i < 0 || i >= k.run.size() ? NONE : k.run.get(i);
    }

    int level(int n, int i) {
        if (!isKnown(n)) return UNKNOWN;
        Knot k = knots.get(n);
        return k.sort == 1 || i < 0 || i >= k.run.size() ? NOT : levelOf(k, i);
    }

    // ---- the whole

    /** The least cell in which two runs clash. */
    private int clashCell(Knot a, Knot b) {
        if (a.sort == 1 || b.sort == 1 || a.above == null || b.above == null) return NONE;
        if (a.above == b || b.above == a || a.above == b.above) return NONE;
        for (int c = 0; c < 144; c++) {
            int i = a.run.indexOf(c), j = b.run.indexOf(c);
            if (i >= 0 && j >= 0 && Math.abs(levelOf(a, i) - levelOf(b, j)) < rules[1]) return c;
        }
        return NONE;
    }

    int clash(int what) {
        if (what < 0 || what > 2) return OUTSIDE;
        for (int a = 0; a < knots.size(); a++) {
            for (int b = a + 1; b < knots.size(); b++) {
                int c = clashCell(knots.get(a), knots.get(b));
                if (c != NONE) return what == 0 ? a : what == 1 ? b : c;
            }
        }
        return NONE;
    }

    int count(int what) {
        if (what < 0 || what > 8) return OUTSIDE;
        int number = what == 8 ? NONE : 0;
        for (int n = 0; n < knots.size(); n++) {
            Knot k = knots.get(n);
            switch (what) {
                case 0: number++; break;
                case 1: number += k.above == null ? 1 : 0; break;
                case 2: number += k.above != null && sizeOf(k) == NONE ? 1 : 0; break;
                case 3: number += hasTrap(k) ? 1 : 0; break;
                case 4: number += isSafe(k) ? 1 : 0; break;
                case 5:
                    for (int m = 0; m < n; m++) number += clashCell(knots.get(m), k) != NONE ? 1 : 0;
                    break;
                case 6: number += lengthOf(k); break;
                case 7: number += turnsOf(k); break;
                default: number = Math.max(number, secondsOf(k)); break;
            }
        }
        return number;
    }

    int bars(int s, int what) {
        if (s < 0 || s > 5 || what < 0 || what > 3) return OUTSIDE;
        int bar = rules[3], whole = 0, runs = 0, sum = 0;
        List<Integer> pieces = new ArrayList<>();
        for (Knot k : knots) {
            if (k.above == null || sizeOf(k) != s) continue;
            runs++;
            int length = lengthOf(k);
            while (length > bar || (length == bar && lengthOf(k) > bar)) {
                length -= bar;
                whole++;
            }
            if (length > 0) pieces.add(length);
            sum += length;
        }
        if (what == 3) return runs;
        if (what == 0) return pieces.size();
        if (pieces.size() > 12) return NOT;
        int fewest = fewest(pieces, 0, new ArrayList<>(), bar, pieces.size());
        return what == 1 ? whole + fewest : fewest * bar - sum;
    }

    /** Puts each piece into each bar begun, and into a new one. */
    private static int fewest(List<Integer> pieces, int at, List<Integer> begun, int bar, int best) {
        if (begun.size() >= best) return best;
        if (at == pieces.size()) return begun.size();
        int piece = pieces.get(at);
        int found = best;
        for (int b = 0; b < begun.size(); b++) {
            if (begun.get(b) + piece > bar) continue;
            begun.set(b, begun.get(b) + piece);
            found = fewest(pieces, at + 1, begun, bar, found);
            begun.set(b, begun.get(b) - piece);
        }
        begun.add(piece);
        found = fewest(pieces, at + 1, begun, bar, found);
        begun.remove(begun.size() - 1);
        return found;
    }
}
