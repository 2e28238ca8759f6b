import java.util.Arrays;

/**
 * Pipes in a house: the floor with its prices, the nodes that hang on mains by runs, and what follows from them.
 * This class holds the face alone: it refuses what the document refuses, in its order, and passes the rest on.
 */
public final class PipeHouse {
    public static final int NONE = -1, UNKNOWN = -1001, OUTSIDE = -1002, NOT = -1003, FULL = -1004;

    private static final int LAST_UNITS = 50;
    private static final int LAST_OF_NODE = 11, LAST_OF_CLASH = 2, LAST_OF_COUNT = 8, LAST_OF_BARS = 3;

    private final Floor floor;
    private final Nodes nodes;
    private final Rules rules;
    private final Reckoning reckoning;
    private final Crossings crossings;
    private final Saw saw;

    public PipeHouse() {
        floor = new Floor();
        nodes = new Nodes();
        rules = new Rules();
        reckoning = new Reckoning();
        crossings = new Crossings();
        saw = new Saw();
    }

    // ---- the floor

    public int price(int cell, int v) {
        if (!Floor.holds(cell)) {
            return UNKNOWN;
        }
        if (isOutside(v, Floor.DEAREST)) {
            return OUTSIDE;
        }
        return floor.changePrice(cell, v);
    }

    public int cheapest(int from, int to) {
        if (!Floor.holds(from) || !Floor.holds(to)) {
            return UNKNOWN;
        }
        return floor.find(from, to) ? floor.foundPrice() : NONE;
    }

    public int way(int from, int to, int i) {
        if (!Floor.holds(from) || !Floor.holds(to)) {
            return UNKNOWN;
        }
        return floor.find(from, to) ? floor.foundCell(i) : NONE;
    }

    // ---- nodes

    public int main(int cell, int sort) {
        if (!Floor.holds(cell)) {
            return UNKNOWN;
        }
        if (isOutside(sort, Nodes.HOT)) {
            return OUTSIDE;
        }
        return nodes.isFull() ? FULL : nodes.addMain(cell, sort);
    }

    public int hang(int n, int cell, int units) {
        if (!nodes.holds(n) || !Floor.holds(cell)) {
            return UNKNOWN;
        }
        if (isOutside(units, LAST_UNITS)) {
            return OUTSIDE;
        }
        if (cell == nodes.cellOf(n) || !floor.find(cell, nodes.cellOf(n))) {
            return NOT;
        }
        return nodes.isFull() ? FULL : nodes.addHung(n, cell, units, floor);
    }

    public int units(int n, int v) {
        if (!nodes.holds(n)) {
            return UNKNOWN;
        }
        if (isOutside(v, LAST_UNITS)) {
            return OUTSIDE;
        }
        return nodes.changeUnits(n, v);
    }

    public int air(int n, boolean on) {
        if (!nodes.holds(n)) {
            return UNKNOWN;
        }
        if (nodes.isMain(n) || !nodes.isDrain(n)) {
            return NOT;
        }
        return truth(nodes.changeAired(n, on));
    }

    public int cut(int n) {
        return nodes.holds(n) ? nodes.removeFrom(n) : UNKNOWN;
    }

    public int lay() {
        int changed = 0;
        for (int n = 0; n < nodes.number(); n++) {
            if (!nodes.isMain(n) && floor.find(nodes.cellOf(n), nodes.cellAbove(n)) && nodes.layRun(n, floor)) {
                changed++;
            }
        }
        return changed;
    }

    public int rule(int what, int v) {
        return Rules.allows(what, v) ? rules.changeValue(what, v) : OUTSIDE;
    }

    public int limit(int s, int v) {
        if (!Rules.allowsLimit(s, v)) {
            return OUTSIDE;
        }
        return rules.wouldRise(s, v) ? rules.changeLimit(s, v) : NOT;
    }

    public int node(int n, int what) {
        if (!nodes.holds(n)) {
            return UNKNOWN;
        }
        if (isOutside(what, LAST_OF_NODE)) {
            return OUTSIDE;
        }
        reckoning.settle(nodes, rules);
        switch (what) {
            case 0: return nodes.cellOf(n);
            case 1: return nodes.aboveOf(n);
            case 2: return nodes.sortOf(n);
            case 3: return nodes.unitsOf(n);
            case 4: return truth(nodes.isAired(n));
            case 5: return reckoning.loadOf(n);
            case 6: return nodes.lengthOf(n);
            case 7: return nodes.turnsOf(n);
            case 8: return reckoning.sizeOf(n);
            case 9: return reckoning.levelAt(n, 0);
            case 10: return truth(reckoning.isSafe(nodes, rules, n));
            default: return reckoning.secondsOf(nodes, n);
        }
    }

    public int run(int n, int i) {
        if (!nodes.holds(n)) {
            return UNKNOWN;
        }
        return nodes.hasRunCell(n, i) ? nodes.runCell(n, i) : NONE;
    }

    public int level(int n, int i) {
        if (!nodes.holds(n)) {
            return UNKNOWN;
        }
        if (!nodes.isDrain(n) || !nodes.hasRunCell(n, i)) {
            return NOT;
        }
        reckoning.settle(nodes, rules);
        return reckoning.levelAt(n, i);
    }

    // ---- the whole

    public int clash(int what) {
        if (isOutside(what, LAST_OF_CLASH)) {
            return OUTSIDE;
        }
        reckoning.settle(nodes, rules);
        crossings.search(nodes, reckoning, rules.cover());
        switch (what) {
            case 0: return crossings.firstNode();
            case 1: return crossings.otherNode();
            default: return crossings.firstCell();
        }
    }

    public int count(int what) {
        if (isOutside(what, LAST_OF_COUNT)) {
            return OUTSIDE;
        }
        reckoning.settle(nodes, rules);
        switch (what) {
            case 0: return nodes.number();
            case 1: return nodes.mains();
            case 2: return reckoning.runsOfSize(nodes, NONE);
            case 3: return nodes.traps();
            case 4: return reckoning.safeTraps(nodes, rules);
            case 5:
                crossings.search(nodes, reckoning, rules.cover());
                return crossings.pairs();
            case 6: return nodes.lengthOfAll();
            case 7: return nodes.turnsOfAll();
            default: return reckoning.mostSeconds(nodes);
        }
    }

    public int bars(int s, int what) {
        if (isOutside(s, Rules.LAST_SIZE) || isOutside(what, LAST_OF_BARS)) {
            return OUTSIDE;
        }
        reckoning.settle(nodes, rules);
        if (what == 3) {
            return reckoning.runsOfSize(nodes, s);
        }
        saw.gather(nodes, reckoning, s, rules.bar());
        if (what == 0) {
            return saw.pieces();
        }
        if (saw.hasTooMany()) {
            return NOT;
        }
        return what == 1 ? saw.fewestBars() : saw.waste();
    }

    private static boolean isOutside(int v, int last) {
        return v < 0 || v > last;
    }

    private static int truth(boolean told) {
        return told ? 1 : 0;
    }

    /** The CELLS with their PRICES, and THE WAY that was found last. */
    private static final class Floor {
        static final int SIDE = 12, CELLS = SIDE * SIDE, DEAREST = 9;
        private static final int SIDES_OF_A_CELL = 4;
        /** What is left of a way is one number, PRICE times this and steps, so that steps only part equal PRICES. */
        private static final int PRICE_UNIT = 256;
        private static final int FAR = 1 << 30;
        /** A CELL is waited for at most DEAREST ahead of the sum in work: that many places and one never meet. */
        private static final int RING = DEAREST + 1;

        private final int[] prices = new int[CELLS];
        private final int[] left = new int[CELLS];
        private final int[] ring = new int[RING];
        private final int[] nextInRing = new int[CELLS];
        private final int[] found = new int[CELLS];
        private int waiting, foundLength, foundPrice;

        Floor() {
            Arrays.fill(prices, 1);
        }

        static boolean holds(int cell) {
            return cell >= 0 && cell < CELLS;
        }

        int changePrice(int cell, int v) {
            int was = prices[cell];
            prices[cell] = v;
            return was;
        }

        /** Whether there is THE WAY; then foundPrice, foundLength and foundCell tell it until the next search. */
        boolean find(int from, int to) {
            foundLength = 0;
            searchBackFrom(to);
            if (left[from] == FAR) {
                return false;
            }
            foundPrice = left[from] / PRICE_UNIT;
            walk(from, to);
            return true;
        }

        int foundPrice() {
            return foundPrice;
        }

        int foundLength() {
            return foundLength;
        }

        int foundCell(int i) {
            return i >= 0 && i < foundLength ? found[i] : NONE;
        }

        /**
         * Tells for each CELL what is left of its way to the goal. It goes back from the goal since only then
         * the walk forward can take, of several best ways, the one with the lesser CELL at each step.
         */
        private void searchBackFrom(int goal) {
            Arrays.fill(left, FAR);
            Arrays.fill(ring, NONE);
            left[goal] = 0;
            waiting = 0;
            if (prices[goal] > 0) {
                waitFor(goal, prices[goal]);
            }
            for (int sum = 0; waiting > 0 && sum <= DEAREST * CELLS; sum++) {
                workOff(sum);
            }
        }

        private void waitFor(int cell, int sum) {
            int place = sum % RING;
            nextInRing[cell] = ring[place];
            ring[place] = cell;
            waiting++;
        }

        private void workOff(int sum) {
            int place = sum % RING;
            int cell = ring[place];
            ring[place] = NONE;
            for (int k = 0; k < CELLS && cell != NONE; k++) {
                waiting--;
                reachFrom(cell, sum);
                cell = nextInRing[cell];
            }
        }

        /**
         * Sums are worked off as they rise, so a CELL once reached keeps its PRICE; of the same PRICE a way
         * with fewer steps may still come, but always before the CELL itself is worked off.
         */
        private void reachFrom(int cell, int sum) {
            int through = left[cell] + prices[cell] * PRICE_UNIT + 1;
            for (int side = 0; side < SIDES_OF_A_CELL; side++) {
                int to = beside(cell, side);
                if (to == NONE || left[to] <= through) {
                    continue;
                }
                // A wall is reached, too: a WAY may begin in one. But none leads through it.
                if (left[to] == FAR && prices[to] > 0) {
                    waitFor(to, sum + prices[to]);
                }
                left[to] = through;
            }
        }

        private void walk(int from, int to) {
            int cell = from;
            for (int k = 0; k < CELLS && cell != NONE; k++) {
                found[k] = cell;
                foundLength = k + 1;
                cell = cell == to ? NONE : stepFrom(cell);
            }
        }

        private int stepFrom(int cell) {
            for (int side = 0; side < SIDES_OF_A_CELL; side++) {
                int to = beside(cell, side);
                if (to != NONE && prices[to] > 0 && left[to] + prices[to] * PRICE_UNIT + 1 == left[cell]) {
                    return to;
                }
            }
            return NONE;
        }

        /** The sides come by rising numbers of their CELLS: the walk relies on it. */
        private static int beside(int cell, int side) {
            int x = cell % SIDE;
            switch (side) {
                case 0: return cell >= SIDE ? cell - SIDE : NONE;
                case 1: return x > 0 ? cell - 1 : NONE;
                case 2: return x < SIDE - 1 ? cell + 1 : NONE;
                default: return cell < CELLS - SIDE ? cell + SIDE : NONE;
            }
        }
    }

    /** SLOPE, COVER, REACH, BAR and the LIMITS of the SIZES. */
    private static final class Rules {
        static final int LAST_SIZE = 5;
        private static final int SIZES = LAST_SIZE + 1, RULES = 4;
        private static final int SLOPE = 0, COVER = 1, REACH = 2, BAR = 3;
        private static final int LAST_LIMIT = 2000;
        private static final int[] LEAST = {1, 0, 1, 50};
        private static final int[] MOST = {20, 2000, 500, 2000};

        private final int[] values = {10, 500, 150, 600};
        private final int[] limits = {2, 6, 12, 24, 60, 200};

        static boolean allows(int what, int v) {
            return what >= 0 && what < RULES && v >= LEAST[what] && v <= MOST[what];
        }

        static boolean allowsLimit(int s, int v) {
            return s >= 0 && s < SIZES && v >= 1 && v <= LAST_LIMIT;
        }

        int changeValue(int what, int v) {
            int was = values[what];
            values[what] = v;
            return was;
        }

        boolean wouldRise(int s, int v) {
            return (s == 0 || limits[s - 1] < v) && (s == LAST_SIZE || v < limits[s + 1]);
        }

        int changeLimit(int s, int v) {
            int was = limits[s];
            limits[s] = v;
            return was;
        }

        int slope() {
            return values[SLOPE];
        }

        int cover() {
            return values[COVER];
        }

        int reach() {
            return values[REACH];
        }

        int bar() {
            return values[BAR];
        }

        /** The least SIZE, not less than another one, that lets a LOAD pass. */
        int sizeFor(int load, int least) {
            if (least < 0) {
                return NONE;
            }
            for (int s = least; s < SIZES; s++) {
                if (limits[s] >= load) {
                    return s;
                }
            }
            return NONE;
        }
    }

    /** The NODES with their RUNS, as they were told and laid. A NODE's number is above that of what it hangs on. */
    private static final class Nodes {
        static final int MOST = 24, DRAIN = 0, HOT = 1;
        private static final int STEP_LENGTH = 50;

        private final int[] cell = new int[MOST];
        private final int[] above = new int[MOST];
        private final int[] sort = new int[MOST];
        private final int[] unitsAt = new int[MOST];
        private final boolean[] aired = new boolean[MOST];
        private final int[] runLength = new int[MOST];
        private final int[] runCells = new int[MOST * Floor.CELLS];
        private int number;

        boolean holds(int n) {
            return n >= 0 && n < number;
        }

        boolean isFull() {
            return number >= MOST;
        }

        int addMain(int ownCell, int ownSort) {
            int n = add(ownCell, NONE, ownSort, 0);
            aired[n] = ownSort == DRAIN;
            return n;
        }

        int addHung(int up, int ownCell, int ownUnits, Floor floor) {
            int n = add(ownCell, up, sort[up], ownUnits);
            layRun(n, floor);
            return n;
        }

        private int add(int ownCell, int up, int ownSort, int ownUnits) {
            int n = number;
            cell[n] = ownCell;
            above[n] = up;
            sort[n] = ownSort;
            unitsAt[n] = ownUnits;
            aired[n] = false;
            runLength[n] = 0;
            number++;
            return n;
        }

        int removeFrom(int n) {
            int went = number - n;
            number = n;
            return went;
        }

        /** Lays a RUN along the way that the floor found last: whether it has other CELLS then. */
        boolean layRun(int n, Floor floor) {
            int length = floor.foundLength();
            boolean other = runLength[n] != length;
            runLength[n] = length;
            for (int i = 0; i < length; i++) {
                int place = n * Floor.CELLS + i;
                other = other || runCells[place] != floor.foundCell(i);
                runCells[place] = floor.foundCell(i);
            }
            return other;
        }

        int changeUnits(int n, int v) {
            int was = unitsAt[n];
            unitsAt[n] = v;
            return was;
        }

        boolean changeAired(int n, boolean on) {
            boolean was = aired[n];
            aired[n] = on;
            return was;
        }

        int number() {
            return number;
        }

        boolean isMain(int n) {
            return above[n] == NONE;
        }

        boolean isDrain(int n) {
            return sort[n] == DRAIN;
        }

        boolean isAired(int n) {
            return aired[n];
        }

        boolean hasTrap(int n) {
            return isDrain(n) && unitsAt[n] > 0;
        }

        int cellOf(int n) {
            return cell[n];
        }

        int aboveOf(int n) {
            return above[n];
        }

        /** The CELL of what a NODE hangs on; it may be asked of a NODE that is no MAIN. */
        int cellAbove(int n) {
            int up = above[n];
            return up == NONE ? cell[n] : cell[up];
        }

        int sortOf(int n) {
            return sort[n];
        }

        int unitsOf(int n) {
            return unitsAt[n];
        }

        int cellsOfRun(int n) {
            return runLength[n];
        }

        boolean hasRunCell(int n, int i) {
            return i >= 0 && i < runLength[n];
        }

        int runCell(int n, int i) {
            return runCells[n * Floor.CELLS + i];
        }

        int steps(int n) {
            return isMain(n) ? 0 : runLength[n] - 1;
        }

        int lengthOf(int n) {
            return steps(n) * STEP_LENGTH;
        }

        int turnsOf(int n) {
            int turns = 0;
            for (int i = 2; i < runLength[n]; i++) {
                int before = runCell(n, i - 1) - runCell(n, i - 2);
                if (runCell(n, i) - runCell(n, i - 1) != before) {
                    turns++;
                }
            }
            return turns;
        }

        /** The LENGTH of the RUNS from a NODE on, up to the first that is AIRED. */
        int lengthToAir(int n) {
            int length = 0;
            int at = n;
            for (int k = 0; k < MOST && at != NONE && !aired[at]; k++) {
                length += lengthOf(at);
                at = above[at];
            }
            return length;
        }

        int mains() {
            int mains = 0;
            for (int n = 0; n < number; n++) {
                mains += isMain(n) ? 1 : 0;
            }
            return mains;
        }

        int traps() {
            int traps = 0;
            for (int n = 0; n < number; n++) {
                traps += hasTrap(n) ? 1 : 0;
            }
            return traps;
        }

        int lengthOfAll() {
            int length = 0;
            for (int n = 0; n < number; n++) {
                length += lengthOf(n);
            }
            return length;
        }

        int turnsOfAll() {
            int turns = 0;
            for (int n = 0; n < number; n++) {
                turns += turnsOf(n);
            }
            return turns;
        }
    }

    /** What follows from the NODES and the rules: true from settle() on until one of them changes. */
    private static final class Reckoning {
        private static final int RISE_PER_SLOPE = 5, FLOW_PER_UNIT = 40;

        private final int[] load = new int[Nodes.MOST];
        private final int[] size = new int[Nodes.MOST];
        private final int[] levelOwn = new int[Nodes.MOST];
        private int rise;

        void settle(Nodes nodes, Rules rules) {
            settleSizes(nodes, rules);
            settleLevels(nodes, rules);
        }

        /** From the last NODE to the first: what hangs on a NODE is done ahead of it. */
        private void settleSizes(Nodes nodes, Rules rules) {
            for (int n = 0; n < nodes.number(); n++) {
                load[n] = nodes.unitsOf(n);
                size[n] = 0;
            }
            for (int n = nodes.number() - 1; n >= 0; n--) {
                int up = nodes.aboveOf(n);
                if (up != NONE) {
                    size[n] = rules.sizeFor(load[n], size[n]);
                    load[up] += load[n];
                    size[up] = wider(size[up], size[n]);
                }
            }
        }

        private static int wider(int a, int b) {
            return a == NONE || b == NONE ? NONE : Math.max(a, b);
        }

        private void settleLevels(Nodes nodes, Rules rules) {
            rise = RISE_PER_SLOPE * rules.slope();
            for (int n = 0; n < nodes.number(); n++) {
                int up = nodes.aboveOf(n);
                levelOwn[n] = up == NONE || !nodes.isDrain(n) ? 0 : levelOwn[up] + rise * nodes.steps(n);
            }
        }

        int loadOf(int n) {
            return load[n];
        }

        int sizeOf(int n) {
            return size[n];
        }

        int levelAt(int n, int i) {
            return levelOwn[n] - rise * i;
        }

        boolean isSafe(Nodes nodes, Rules rules, int n) {
            if (!nodes.hasTrap(n)) {
                return false;
            }
            if (nodes.isMain(n)) {
                return true;
            }
            return size[n] != NONE && nodes.lengthToAir(n) <= rules.reach() * (size[n] + 1);
        }

        int secondsOf(Nodes nodes, int n) {
            if (nodes.isMain(n) || nodes.isDrain(n) || nodes.unitsOf(n) <= 0) {
                return NONE;
            }
            int drops = 0;
            int at = n;
            for (int k = 0; k < Nodes.MOST && !nodes.isMain(at); k++) {
                if (size[at] == NONE) {
                    return NONE;
                }
                int wide = size[at] + 1;
                drops += nodes.lengthOf(at) * wide * wide;
                at = nodes.aboveOf(at);
            }
            return drops / (FLOW_PER_UNIT * nodes.unitsOf(n));
        }

        int runsOfSize(Nodes nodes, int s) {
            int runs = 0;
            for (int n = 0; n < nodes.number(); n++) {
                runs += !nodes.isMain(n) && size[n] == s ? 1 : 0;
            }
            return runs;
        }

        int safeTraps(Nodes nodes, Rules rules) {
            int safe = 0;
            for (int n = 0; n < nodes.number(); n++) {
                safe += isSafe(nodes, rules, n) ? 1 : 0;
            }
            return safe;
        }

        int mostSeconds(Nodes nodes) {
            int most = NONE;
            for (int n = 0; n < nodes.number(); n++) {
                most = Math.max(most, secondsOf(nodes, n));
            }
            return most;
        }
    }

    /** The CLASHES: how many pairs of RUNS, and the first of them. */
    private static final class Crossings {
        private final int[] levelInCell = new int[Floor.CELLS];
        private int pairs, firstNode, otherNode, firstCell;

        Crossings() {
            Arrays.fill(levelInCell, NONE);
        }

        void search(Nodes nodes, Reckoning reckoning, int cover) {
            pairs = 0;
            firstNode = NONE;
            otherNode = NONE;
            firstCell = NONE;
            for (int n = 0; n < nodes.number(); n++) {
                if (isDrainRun(nodes, n)) {
                    mark(nodes, reckoning, n);
                    searchAbove(nodes, reckoning, cover, n);
                    unmark(nodes, n);
                }
            }
        }

        int pairs() {
            return pairs;
        }

        int firstNode() {
            return firstNode;
        }

        int otherNode() {
            return otherNode;
        }

        int firstCell() {
            return firstCell;
        }

        private static boolean isDrainRun(Nodes nodes, int n) {
            return nodes.isDrain(n) && !nodes.isMain(n);
        }

        private void mark(Nodes nodes, Reckoning reckoning, int n) {
            for (int i = 0; i < nodes.cellsOfRun(n); i++) {
                levelInCell[nodes.runCell(n, i)] = reckoning.levelAt(n, i);
            }
        }

        private void unmark(Nodes nodes, int n) {
            for (int i = 0; i < nodes.cellsOfRun(n); i++) {
                levelInCell[nodes.runCell(n, i)] = NONE;
            }
        }

        private void searchAbove(Nodes nodes, Reckoning reckoning, int cover, int n) {
            for (int other = n + 1; other < nodes.number(); other++) {
                if (!isDrainRun(nodes, other) || areJoined(nodes, n, other)) {
                    continue;
                }
                int cell = leastCommonCell(nodes, reckoning, cover, other);
                if (cell != NONE) {
                    keepIfFirst(n, other, cell);
                    pairs++;
                }
            }
        }

        private static boolean areJoined(Nodes nodes, int a, int b) {
            return nodes.aboveOf(a) == b || nodes.aboveOf(b) == a || nodes.aboveOf(a) == nodes.aboveOf(b);
        }

        /** The least CELL of a RUN in which it comes too near to the RUN that is marked. */
        private int leastCommonCell(Nodes nodes, Reckoning reckoning, int cover, int n) {
            int least = NONE;
            for (int i = 0; i < nodes.cellsOfRun(n); i++) {
                int cell = nodes.runCell(n, i);
                int marked = levelInCell[cell];
                boolean near = marked != NONE && Math.abs(marked - reckoning.levelAt(n, i)) < cover;
                if (near && (least == NONE || cell < least)) {
                    least = cell;
                }
            }
            return least;
        }

        private void keepIfFirst(int n, int other, int cell) {
            if (pairs == 0) {
                firstNode = n;
                otherNode = other;
                firstCell = cell;
            }
        }
    }

    /** The BARS of one SIZE, cut into PIECES. */
    private static final class Saw {
        private static final int MOST_PIECES = 12;
        /** A cutting is one number, BARS times this and what is cut from the last, so that fewer BARS come first. */
        private static final int BAR_UNIT = 4096;

        private final int[] piece = new int[MOST_PIECES];
        private final int[] best = new int[1 << MOST_PIECES];
        private int pieces, wholeBars, lengthOfPieces, bar;

        /** Takes the RUNS of a SIZE; PIECES beyond the most are counted, but not kept. */
        void gather(Nodes nodes, Reckoning reckoning, int s, int barLength) {
            pieces = 0;
            wholeBars = 0;
            lengthOfPieces = 0;
            bar = barLength;
            for (int n = 0; n < nodes.number(); n++) {
                if (!nodes.isMain(n) && reckoning.sizeOf(n) == s) {
                    take(nodes.lengthOf(n));
                }
            }
        }

        private void take(int length) {
            int rest = length;
            if (bar > 0 && length > bar) {
                wholeBars += length / bar;
                rest = length % bar;
            }
            if (rest == 0) {
                return;
            }
            if (pieces < MOST_PIECES) {
                piece[pieces] = rest;
            }
            lengthOfPieces += rest;
            pieces++;
        }

        int pieces() {
            return pieces;
        }

        boolean hasTooMany() {
            return pieces > MOST_PIECES;
        }

        int fewestBars() {
            return wholeBars + barsForPieces();
        }

        int waste() {
            return barsForPieces() * bar - lengthOfPieces;
        }

        /** For each set of PIECES the best cutting, from those with one PIECE less: each may be the last to be cut. */
        private int barsForPieces() {
            int kept = Math.min(pieces, MOST_PIECES);
            int all = (1 << kept) - 1;
            // No BAR is begun yet: as if one ahead of the first were used up.
            best[0] = bar;
            for (int set = 1; set <= all; set++) {
                best[set] = bestCutting(set, kept);
            }
            return best[all] / BAR_UNIT;
        }

        private int bestCutting(int set, int kept) {
            int least = (MOST_PIECES + 1) * BAR_UNIT;
            for (int i = 0; i < kept; i++) {
                int bit = 1 << i;
                if ((set & bit) != 0) {
                    least = Math.min(least, cutNext(best[set ^ bit], piece[i]));
                }
            }
            return least;
        }

        private int cutNext(int cutting, int length) {
            int used = cutting % BAR_UNIT;
            return used + length <= bar ? cutting + length : cutting - used + BAR_UNIT + length;
        }
    }
}
