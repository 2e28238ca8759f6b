/** Promises 13 to 15: node, run, level. */
public final class TellingTest {
    private static final Due DUE = new Due("TellingTest");
    private static final int NONE = -1, UNKNOWN = -1001, OUTSIDE = -1002, NOT = -1003;
    private static final int MIN = Integer.MIN_VALUE, MAX = Integer.MAX_VALUE;

    public static void main(String[] args) {
        aDrainIsTold();
        aMainIsTold();
        sizesAreNotLessThanBehindThem();
        sizesThatThereAreNot();
        turnsAreCounted();
        levelsFallAlongRuns();
        trapsNeedAir();
        trapsOfMainsAndHot();
        reachGrowsWithSize();
        secondsAreTold();
        secondsThatThereAreNot();
        nodeRefuses();
        runRefuses();
        levelRefuses();
        DUE.end();
    }

    private static void aDrainIsTold() {
        PipeHouse x = new PipeHouse();
        x.main(0, 0);
        x.hang(0, 26, 5);
        x.hang(1, 28, 3);
        x.hang(1, 50, 0);
        nodeIs(x, 1, 26, 0, 0, 5, 0, 8, 200, 1, 2, 200, 1, NONE);
        nodeIs(x, 2, 28, 1, 0, 3, 0, 3, 100, 0, 1, 300, 1, NONE);
        nodeIs(x, 3, 50, 1, 0, 0, 0, 0, 100, 0, 0, 300, 0, NONE);
    }

    private static void aMainIsTold() {
        PipeHouse x = new PipeHouse();
        x.main(7, 0);
        x.main(8, 1);
        nodeIs(x, 0, 7, NONE, 0, 0, 1, 0, 0, 0, 0, 0, 0, NONE);
        nodeIs(x, 1, 8, NONE, 1, 0, 0, 0, 0, 0, 0, 0, 0, NONE);
        x.units(0, 50);
        x.units(1, 50);
        DUE.is("a main's units are no run's load: node(0, 8)", x.node(0, 8), 0);
        DUE.is("a main has a trap: node(0, 10)", x.node(0, 10), 1);
        DUE.is("a main has no seconds: node(1, 11)", x.node(1, 11), NONE);
        x.hang(0, 19, 3);
        x.hang(0, 20, 13);
        x.hang(2, 31, 1);
        DUE.is("node(0, 5): with itself", x.node(0, 5), 50 + 3 + 13 + 1);
        DUE.is("node(0, 8): the greatest that hangs on it", x.node(0, 8), 3);
    }

    private static void sizesAreNotLessThanBehindThem() {
        PipeHouse x = new PipeHouse();
        int[] units = {1, 2, 3, 6, 7, 12, 13, 24, 25, 50};
        int[] sizes = {0, 0, 1, 1, 2, 2, 3, 3, 4, 4};
        x.main(0, 0);
        x.hang(0, 1, 0);
        DUE.is("node(1, 8): no load at all", x.node(1, 8), 0);
        for (int i = 0; i < units.length; i++) {
            x.units(1, units[i]);
            DUE.is("node(1, 8) with " + units[i], x.node(1, 8), sizes[i]);
        }
        x.units(1, 0);
        x.hang(1, 2, 25);
        x.hang(1, 13, 35);
        DUE.is("node(1, 8): 60 in all", x.node(1, 8), 4);
        x.units(1, 1);
        DUE.is("node(1, 8): 61 in all", x.node(1, 8), 5);
        DUE.is("node(0, 8)", x.node(0, 8), 5);
        DUE.is("node(2, 8): what hangs is less wide", x.node(2, 8), 4);
    }

    private static void sizesThatThereAreNot() {
        PipeHouse x = new PipeHouse();
        x.main(0, 1);
        x.hang(0, 1, 0);
        x.hang(1, 2, 50);
        x.hang(1, 13, 1);
        x.hang(0, 12, 1);
        x.limit(5, 61);
        DUE.is("node(1, 8): 51", x.node(1, 8), 4);
        x.units(1, 11);
        DUE.is("node(1, 8): 62 above 61", x.node(1, 8), NONE);
        DUE.is("node(0, 8): one is none", x.node(0, 8), NONE);
        DUE.is("node(2, 8): below it", x.node(2, 8), 4);
        DUE.is("node(4, 8): beside it", x.node(4, 8), 0);
        DUE.is("count(2)", x.count(2), 1);
        x.units(1, 10);
        DUE.is("node(1, 8): 61 at 61", x.node(1, 8), 5);
        for (int s = 0; s < 6; s++) {
            x.limit(s, s + 1);
        }
        DUE.is("node(2, 8): 50 above 6", x.node(2, 8), NONE);
        DUE.is("node(1, 8): on towards the main", x.node(1, 8), NONE);
        DUE.is("node(3, 8)", x.node(3, 8), 0);
        DUE.is("count(2): all on the way", x.count(2), 2);
        DUE.is("bars(5, 3): none of these", x.bars(5, 3), 0);
    }

    private static void turnsAreCounted() {
        PipeHouse x = new PipeHouse();
        x.main(0, 0);
        x.hang(0, 11, 1);
        x.hang(0, 13, 1);
        x.hang(0, 1, 1);
        x.price(1, 9);
        x.hang(0, 2, 1);
        x.price(15, 0);
        x.price(16, 0);
        x.price(26, 0);
        x.price(3, 0);
        x.hang(0, 17, 1);
        DUE.is("node(1, 7): straight", x.node(1, 7), 0);
        DUE.is("node(2, 7): one corner", x.node(2, 7), 1);
        DUE.is("node(3, 7): two cells", x.node(3, 7), 0);
        DUE.is("node(4, 7): 2, 14, 13, 12, 0", x.node(4, 7), 2);
        // 17, 29, 28, 27, 39, 38, 37, 25, 13, 12, 0: it turns in 29, 27, 39, 37, 13 and 12.
        DUE.is("node(5, 6)", x.node(5, 6), 500);
        DUE.is("node(5, 7)", x.node(5, 7), 6);
        DUE.is("count(7)", x.count(7), 0 + 1 + 0 + 2 + 6);
    }

    private static void levelsFallAlongRuns() {
        PipeHouse x = new PipeHouse();
        x.main(0, 0);
        x.hang(0, 3, 1);
        x.hang(1, 27, 1);
        x.rule(0, 7);
        int[] first = {105, 70, 35, 0};
        for (int i = 0; i < first.length; i++) {
            DUE.is("level(1, " + i + ")", x.level(1, i), first[i]);
        }
        DUE.is("level(1, 4)", x.level(1, 4), NOT);
        int[] second = {175, 140, 105};
        for (int i = 0; i < second.length; i++) {
            DUE.is("level(2, " + i + ")", x.level(2, i), second[i]);
        }
        DUE.is("level(2, 3)", x.level(2, 3), NOT);
        DUE.is("node(2, 9)", x.node(2, 9), 175);
    }

    private static void trapsNeedAir() {
        PipeHouse x = new PipeHouse();
        x.main(0, 0);
        x.hang(0, 2, 0);
        x.hang(1, 4, 1);
        x.hang(2, 5, 1);
        DUE.is("node(1, 10): no trap", x.node(1, 10), 0);
        DUE.is("node(2, 10): 200 to the main", x.node(2, 10), 0);
        DUE.is("node(3, 10): 250 to the main", x.node(3, 10), 0);
        x.air(1, true);
        DUE.is("node(2, 10): 100 to air", x.node(2, 10), 1);
        DUE.is("node(3, 10): 150 to air", x.node(3, 10), 1);
        x.rule(2, 149);
        DUE.is("node(3, 10): 150 to air, above 149", x.node(3, 10), 0);
        x.rule(2, 1);
        DUE.is("node(2, 10): above 1", x.node(2, 10), 0);
        x.air(2, true);
        DUE.is("node(2, 10): its own air", x.node(2, 10), 1);
        DUE.is("node(3, 10): 50 to air, above 1", x.node(3, 10), 0);
        DUE.is("count(3)", x.count(3), 2);
        DUE.is("count(4)", x.count(4), 1);
    }

    private static void trapsOfMainsAndHot() {
        PipeHouse x = new PipeHouse();
        x.main(0, 0);
        x.hang(0, 1, 50);
        x.units(0, 1);
        for (int s = 0; s < 6; s++) {
            x.limit(s, s + 1);
        }
        DUE.is("node(1, 8)", x.node(1, 8), NONE);
        DUE.is("node(1, 10): with size none", x.node(1, 10), 0);
        x.air(1, true);
        DUE.is("node(1, 10): with size none, though aired", x.node(1, 10), 0);
        DUE.is("node(0, 10): of a main it is safe", x.node(0, 10), 1);
        x.main(30, 1);
        x.units(2, 1);
        x.hang(2, 31, 1);
        DUE.is("node(2, 10): hot", x.node(2, 10), 0);
        DUE.is("node(3, 10): hot", x.node(3, 10), 0);
        DUE.is("count(3): none of hot", x.count(3), 2);
        DUE.is("count(4)", x.count(4), 1);
    }

    private static void reachGrowsWithSize() {
        PipeHouse x = new PipeHouse();
        x.main(0, 0);
        x.hang(0, 7, 2);
        DUE.is("node(1, 10): 350 above 150", x.node(1, 10), 0);
        x.units(1, 6);
        DUE.is("node(1, 10): 350 above 300", x.node(1, 10), 0);
        x.units(1, 7);
        DUE.is("node(1, 10): 350, 450", x.node(1, 10), 1);
        // Its own SIZE counts alone, however wide the RUNS towards the MAIN are.
        x.hang(1, 8, 1);
        DUE.is("node(2, 10): 400 above 150", x.node(2, 10), 0);
    }

    private static void secondsAreTold() {
        PipeHouse x = new PipeHouse();
        x.main(0, 1);
        x.hang(0, 3, 2);
        x.hang(1, 27, 1);
        x.hang(2, 28, 10);
        DUE.is("node(3, 8)", x.node(3, 8), 2);
        DUE.is("node(1, 8)", x.node(1, 8), 3);
        // 50 at 9, 100 at 9 (its load 11), 150 at 16 (its load 13).
        DUE.is("node(3, 11)", x.node(3, 11), (50 * 9 + 100 * 9 + 150 * 16) / 400);
        DUE.is("node(2, 11)", x.node(2, 11), (100 * 9 + 150 * 16) / 40);
        DUE.is("node(1, 11)", x.node(1, 11), 150 * 16 / 80);
        DUE.is("count(8)", x.count(8), 82);
        x.hang(0, 12, 50);
        DUE.is("node(4, 11): 50 at 25 / 2000", x.node(4, 11), 0);
        x.cut(0);
        x.main(0, 1);
        x.hang(0, 1, 2);
        DUE.is("node(1, 11): 50 / 80", x.node(1, 11), 0);
        DUE.is("count(8): 0 is more than none", x.count(8), 0);
    }

    private static void secondsThatThereAreNot() {
        PipeHouse x = new PipeHouse();
        x.main(0, 1);
        x.hang(0, 2, 0);
        x.hang(1, 4, 1);
        DUE.is("node(1, 11): no units", x.node(1, 11), NONE);
        DUE.is("node(2, 11)", x.node(2, 11), 5);
        x.hang(1, 14, 50);
        for (int s = 0; s < 6; s++) {
            x.limit(s, s + 1);
        }
        DUE.is("node(2, 8)", x.node(2, 8), 0);
        DUE.is("node(2, 11): a size on the way is none", x.node(2, 11), NONE);
        DUE.is("count(8)", x.count(8), NONE);
        x.main(100, 0);
        x.hang(4, 101, 1);
        DUE.is("node(5, 11): a drain", x.node(5, 11), NONE);
        DUE.is("node(4, 11): a drain's main", x.node(4, 11), NONE);
    }

    private static void nodeRefuses() {
        PipeHouse x = new PipeHouse();
        DUE.is("node(0, 0)", x.node(0, 0), UNKNOWN);
        DUE.is("node(0, 12): UNKNOWN first", x.node(0, 12), UNKNOWN);
        x.main(3, 0);
        DUE.is("node(-1, 0)", x.node(-1, 0), UNKNOWN);
        DUE.is("node(1, 0)", x.node(1, 0), UNKNOWN);
        DUE.is("node(24, 0)", x.node(24, 0), UNKNOWN);
        DUE.is("node(MIN, MIN)", x.node(MIN, MIN), UNKNOWN);
        DUE.is("node(MAX, 0)", x.node(MAX, 0), UNKNOWN);
        DUE.is("node(0, -1)", x.node(0, -1), OUTSIDE);
        DUE.is("node(0, 12)", x.node(0, 12), OUTSIDE);
        DUE.is("node(0, MAX)", x.node(0, MAX), OUTSIDE);
    }

    private static void runRefuses() {
        PipeHouse x = new PipeHouse();
        DUE.is("run(0, 0)", x.run(0, 0), UNKNOWN);
        x.main(3, 0);
        x.hang(0, 5, 1);
        x.hang(0, 6, 1);
        DUE.is("run(-1, 0)", x.run(-1, 0), UNKNOWN);
        DUE.is("run(3, 0)", x.run(3, 0), UNKNOWN);
        DUE.is("run(MAX, MAX)", x.run(MAX, MAX), UNKNOWN);
        DUE.is("run(0, 0): a main has no run", x.run(0, 0), NONE);
        DUE.is("run(1, -1)", x.run(1, -1), NONE);
        DUE.is("run(1, 0)", x.run(1, 0), 5);
        DUE.is("run(1, 2)", x.run(1, 2), 3);
        DUE.is("run(1, 3)", x.run(1, 3), NONE);
        DUE.is("run(1, 144): not the next one's", x.run(1, 144), NONE);
        DUE.is("run(1, MIN)", x.run(1, MIN), NONE);
        DUE.is("run(1, MAX)", x.run(1, MAX), NONE);
    }

    private static void levelRefuses() {
        PipeHouse x = new PipeHouse();
        DUE.is("level(0, 0)", x.level(0, 0), UNKNOWN);
        x.main(3, 0);
        x.hang(0, 5, 1);
        x.main(4, 1);
        x.hang(2, 6, 1);
        DUE.is("level(-1, 0)", x.level(-1, 0), UNKNOWN);
        DUE.is("level(4, 0)", x.level(4, 0), UNKNOWN);
        DUE.is("level(MIN, MIN)", x.level(MIN, MIN), UNKNOWN);
        DUE.is("level(0, 0): a main has no run", x.level(0, 0), NOT);
        DUE.is("level(1, -1)", x.level(1, -1), NOT);
        DUE.is("level(1, 2)", x.level(1, 2), 0);
        DUE.is("level(1, 3)", x.level(1, 3), NOT);
        DUE.is("level(1, MAX)", x.level(1, MAX), NOT);
        DUE.is("level(1, MIN)", x.level(1, MIN), NOT);
        DUE.is("level(2, 0): hot", x.level(2, 0), NOT);
        DUE.is("level(3, 0): hot", x.level(3, 0), NOT);
        DUE.is("node(3, 9): hot lies level", x.node(3, 9), 0);
    }

    private static void nodeIs(PipeHouse x, int n, int... told) {
        for (int what = 0; what < told.length; what++) {
            DUE.is("node(" + n + ", " + what + ")", x.node(n, what), told[what]);
        }
    }
}
