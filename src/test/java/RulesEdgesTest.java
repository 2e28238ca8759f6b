/** Sentence by sentence, the boundary cases of promises 10 to 12: lay, rule, limit. */
public final class RulesEdgesTest {
    private static final Due DUE = new Due("RulesEdgesTest");
    private static final int NONE = -1, OUTSIDE = -1002, NOT = -1003;
    private static final int MIN = Integer.MIN_VALUE, MAX = Integer.MAX_VALUE;
    private static final int SIZES = 6;

    public static void main(String[] args) {
        layWithoutRuns();
        layOfAllRuns();
        layIsByThePricesAsTheyAre();
        layCountsOtherCellsOfTheSameLength();
        layKeepsRunsIntoAWall();
        layKeepsRunsWalledIn();
        layAnewOutOfAWall();
        layIntoAFullFloorOfWalls();
        ruleTakesFrom0To3();
        slopeFrom1To20();
        coverFrom0To2000();
        reachFrom1To500();
        barFrom50To2000();
        rulesAreApart();
        limitTakesSizes0To5();
        limitTakesFrom1To2000();
        limitsRise();
        limitsSideBySide();
        limitsToldAsTheyAre();
        DUE.end();
    }

    private static void layWithoutRuns() {
        DUE.sentence("All RUNS are laid anew, by NODES, by the PRICES as they are: how many have other CELLS then.");
        PipeHouse x = new PipeHouse();
        DUE.is("lay() without nodes", x.lay(), 0);
        x.main(0, 0);
        x.main(143, 1);
        x.price(0, 0);
        DUE.is("lay() of mains alone", x.lay(), 0);
        DUE.is("run(0, 0)", x.run(0, 0), NONE);
    }

    private static void layOfAllRuns() {
        DUE.sentence("how many have other CELLS then");
        PipeHouse x = new PipeHouse();
        x.main(0, 0);
        for (int n = 1; n < 24; n++) {
            x.hang(n % 2 == 1 ? 0 : n - 1, n % 2 == 1 ? 2 : 0, 1);
        }
        DUE.is("lay(): none", x.lay(), 0);
        x.price(1, 9);
        DUE.is("lay(): all 23", x.lay(), 23);
        DUE.is("count(6)", x.count(6), 23 * 200);
        DUE.is("lay() again", x.lay(), 0);
    }

    private static void layIsByThePricesAsTheyAre() {
        DUE.sentence("by the PRICES as they are");
        PipeHouse x = new PipeHouse();
        x.main(0, 0);
        x.hang(0, 2, 1);
        x.price(1, 3);
        DUE.is("lay(): as cheap, with fewer cells", x.lay(), 0);
        x.price(1, 4);
        DUE.is("lay(): one is cheaper", x.lay(), 1);
        DUE.is("run(1, 1)", x.run(1, 1), 14);
        DUE.is("node(1, 9): its level follows", x.node(1, 9), 200);
        x.price(1, 3);
        DUE.is("lay(): back", x.lay(), 1);
        DUE.is("run(1, 1) then", x.run(1, 1), 1);
        DUE.is("run(1, 3) then", x.run(1, 3), NONE);
    }

    private static void layCountsOtherCellsOfTheSameLength() {
        DUE.sentence("how many have other CELLS then");
        PipeHouse x = Scenes.only(0, 1, 12, 13, 14);
        x.main(0, 1);
        x.hang(0, 14, 1);
        DUE.is("run(1, 2)", x.run(1, 2), 1);
        x.price(1, 2);
        DUE.is("lay(): one cell alone differs", x.lay(), 1);
        DUE.is("run(1, 2) then", x.run(1, 2), 12);
        DUE.is("node(1, 6): as long", x.node(1, 6), 150);
    }

    private static void layKeepsRunsIntoAWall() {
        DUE.sentence("(One for which there is no WAY now stays as it is.)");
        PipeHouse x = Scenes.comb(0, 1);
        x.hang(1, 3, 1);
        x.price(0, 0);
        x.price(2, 9);
        DUE.is("lay(): the other one is laid", x.lay(), 1);
        DUE.is("run(1, 0)", x.run(1, 0), 1);
        DUE.is("run(1, 1): into the wall", x.run(1, 1), 0);
        DUE.is("run(1, 2)", x.run(1, 2), NONE);
        DUE.is("node(1, 6)", x.node(1, 6), 50);
        DUE.is("node(2, 6)", x.node(2, 6), 200);
    }

    private static void layKeepsRunsWalledIn() {
        DUE.sentence("(One for which there is no WAY now stays as it is.)");
        PipeHouse x = new PipeHouse();
        x.main(0, 0);
        x.hang(0, 3, 1);
        x.hang(1, 0, 1);
        x.price(1, 0);
        x.price(12, 0);
        DUE.is("lay(): no way to and fro", x.lay(), 0);
        for (int i = 0; i <= 3; i++) {
            DUE.is("run(1, " + i + ")", x.run(1, i), 3 - i);
            DUE.is("run(2, " + i + ")", x.run(2, i), i);
        }
        x.price(1, 1);
        DUE.is("lay(): the same way again", x.lay(), 0);
    }

    private static void layAnewOutOfAWall() {
        DUE.sentence("none a wall but perhaps the first");
        PipeHouse x = new PipeHouse();
        x.main(0, 0);
        x.hang(0, 2, 1);
        x.price(2, 0);
        x.price(1, 0);
        DUE.is("lay(): its own cell may be a wall", x.lay(), 1);
        DUE.is("run(1, 0)", x.run(1, 0), 2);
        DUE.is("run(1, 1)", x.run(1, 1), 14);
        DUE.is("run(1, 4)", x.run(1, 4), 0);
    }

    private static void layIntoAFullFloorOfWalls() {
        DUE.sentence("(One for which there is no WAY now stays as it is.)");
        PipeHouse x = Scenes.comb(0, 11);
        for (int cell = 0; cell < 144; cell++) {
            x.price(cell, 0);
        }
        DUE.is("lay(): walls everywhere", x.lay(), 0);
        DUE.is("count(6)", x.count(6), 66 * 50);
        DUE.is("run(11, 11)", x.run(11, 11), 0);
    }

    private static void ruleTakesFrom0To3() {
        DUE.sentence("What = 0 SLOPE, 1 COVER, 2 REACH, 3 BAR becomes v: what it was. OUTSIDE.");
        PipeHouse x = new PipeHouse();
        DUE.is("rule(-1, 10)", x.rule(-1, 10), OUTSIDE);
        DUE.is("rule(4, 100)", x.rule(4, 100), OUTSIDE);
        DUE.is("rule(MIN, 10)", x.rule(MIN, 10), OUTSIDE);
        DUE.is("rule(MAX, 10)", x.rule(MAX, 10), OUTSIDE);
        DUE.is("rule(0, 10): the least", x.rule(0, 10), 10);
        DUE.is("rule(3, 600): the greatest", x.rule(3, 600), 600);
    }

    private static void slopeFrom1To20() {
        DUE.sentence("SLOPE (1 .. 20, in the thousand; 10 at first)");
        ruleIsBound(0, 1, 20, 10);
    }

    private static void coverFrom0To2000() {
        DUE.sentence("COVER (0 .. 2000; 500 at first)");
        ruleIsBound(1, 0, 2000, 500);
    }

    private static void reachFrom1To500() {
        DUE.sentence("REACH 1 .. 500; 150 at first");
        ruleIsBound(2, 1, 500, 150);
    }

    private static void barFrom50To2000() {
        DUE.sentence("BARS of a length BAR (50 .. 2000; 600 at first)");
        ruleIsBound(3, 50, 2000, 600);
    }

    private static void ruleIsBound(int what, int least, int most, int first) {
        PipeHouse x = new PipeHouse();
        String rule = "rule(" + what + ", ";
        DUE.is(rule + "below the least)", x.rule(what, least - 1), OUTSIDE);
        DUE.is(rule + "above the most)", x.rule(what, most + 1), OUTSIDE);
        DUE.is(rule + "MIN)", x.rule(what, MIN), OUTSIDE);
        DUE.is(rule + "MAX)", x.rule(what, MAX), OUTSIDE);
        DUE.is(rule + "least), as at first", x.rule(what, least), first);
        DUE.is(rule + "least) again", x.rule(what, least), least);
        DUE.is(rule + "most)", x.rule(what, most), least);
        DUE.is(rule + "least + 1)", x.rule(what, least + 1), most);
        DUE.is(rule + "most - 1)", x.rule(what, most - 1), least + 1);
        DUE.is(rule + "above the most) then", x.rule(what, most + 1), OUTSIDE);
        DUE.is(rule + "first)", x.rule(what, first), most - 1);
    }

    private static void rulesAreApart() {
        DUE.sentence("What = 0 SLOPE, 1 COVER, 2 REACH, 3 BAR becomes v: what it was.");
        int[] first = {10, 500, 150, 600};
        int[] other = {20, 0, 500, 50};
        for (int what = 0; what < first.length; what++) {
            PipeHouse x = new PipeHouse();
            x.rule(what, other[what]);
            for (int one = 0; one < first.length; one++) {
                DUE.is("rule(" + one + ", .) after another", x.rule(one, first[one]), one == what ? other[one] : first[one]);
            }
        }
    }

    private static void limitTakesSizes0To5() {
        DUE.sentence("LIMIT of SIZE s becomes v (1 .. 2000): what it was. OUTSIDE (both)");
        PipeHouse x = new PipeHouse();
        DUE.is("limit(-1, 1)", x.limit(-1, 1), OUTSIDE);
        DUE.is("limit(6, 2000)", x.limit(6, 2000), OUTSIDE);
        DUE.is("limit(MIN, 1)", x.limit(MIN, 1), OUTSIDE);
        DUE.is("limit(MAX, 2000)", x.limit(MAX, 2000), OUTSIDE);
        DUE.is("limit(0, 2): the least", x.limit(0, 2), 2);
        DUE.is("limit(5, 200): the greatest", x.limit(5, 200), 200);
    }

    private static void limitTakesFrom1To2000() {
        DUE.sentence("LIMIT of SIZE s becomes v (1 .. 2000): what it was. OUTSIDE (both)");
        PipeHouse x = new PipeHouse();
        DUE.is("limit(0, 0)", x.limit(0, 0), OUTSIDE);
        DUE.is("limit(0, -1)", x.limit(0, -1), OUTSIDE);
        DUE.is("limit(0, MIN)", x.limit(0, MIN), OUTSIDE);
        DUE.is("limit(5, 2001)", x.limit(5, 2001), OUTSIDE);
        DUE.is("limit(5, MAX)", x.limit(5, MAX), OUTSIDE);
        DUE.is("limit(0, 1): the least", x.limit(0, 1), 2);
        DUE.is("limit(0, 1) again", x.limit(0, 1), 1);
        DUE.is("limit(5, 2000): the greatest", x.limit(5, 2000), 200);
        DUE.is("limit(5, 2000) again", x.limit(5, 2000), 2000);
    }

    private static void limitsRise() {
        DUE.sentence("NOT: they would not rise.");
        int[] limits = {2, 6, 12, 24, 60, 200};
        for (int s = 1; s < SIZES; s++) {
            PipeHouse x = new PipeHouse();
            int ahead = limits[s - 1];
            DUE.is("limit(" + s + "), below the one ahead", x.limit(s, ahead - 1), NOT);
            DUE.is("limit(" + s + "), as the one ahead", x.limit(s, ahead), NOT);
            DUE.is("limit(" + s + "), above the one ahead", x.limit(s, ahead + 1), limits[s]);
            DUE.is("limit(" + s + ") back", x.limit(s, limits[s]), ahead + 1);
            int behind = limits[s];
            DUE.is("limit(" + (s - 1) + "), above the one behind", x.limit(s - 1, behind + 1), NOT);
            DUE.is("limit(" + (s - 1) + "), as the one behind", x.limit(s - 1, behind), NOT);
            DUE.is("limit(" + (s - 1) + "), below the one behind", x.limit(s - 1, behind - 1), ahead);
            DUE.is("limit(" + (s - 1) + ") back", x.limit(s - 1, ahead), behind - 1);
        }
    }

    private static void limitsSideBySide() {
        DUE.sentence("LIMITS (told, rising: each above the one ahead");
        PipeHouse x = new PipeHouse();
        Scenes.tightLimits(x);
        for (int s = 0; s < SIZES; s++) {
            DUE.is("limit(" + s + ", " + (s + 1) + "): as it is", x.limit(s, s + 1), s + 1);
            DUE.is("limit(" + s + ", " + s + ")", x.limit(s, s), s == 0 ? OUTSIDE : NOT);
            if (s < SIZES - 1) {
                DUE.is("limit(" + s + ", " + (s + 2) + ")", x.limit(s, s + 2), NOT);
            }
        }
        for (int s = SIZES - 1; s >= 0; s--) {
            DUE.is("limit(" + s + ", " + (1995 + s) + ")", x.limit(s, 1995 + s), s + 1);
        }
        DUE.is("limit(4, 2000)", x.limit(4, 2000), NOT);
        DUE.is("limit(0, 1996)", x.limit(0, 1996), NOT);
    }

    private static void limitsToldAsTheyAre() {
        DUE.sentence("LIMIT of SIZE s becomes v (1 .. 2000): what it was.");
        PipeHouse x = new PipeHouse();
        int[] limits = {2, 6, 12, 24, 60, 200};
        for (int s = 0; s < SIZES; s++) {
            DUE.is("limit(" + s + ", .): the same", x.limit(s, limits[s]), limits[s]);
            DUE.is("limit(" + s + ", .): one more", x.limit(s, limits[s] + 1), limits[s]);
            DUE.is("limit(" + s + ", .): back", x.limit(s, limits[s]), limits[s] + 1);
        }
    }
}
