/** Promises 10 to 12: lay, rule, limit. */
public final class RulesTest {
    private static final Due DUE = new Due("RulesTest");
    private static final int NONE = -1, UNKNOWN = -1001, OUTSIDE = -1002, NOT = -1003;
    private static final int MIN = Integer.MIN_VALUE, MAX = Integer.MAX_VALUE;

    public static void main(String[] args) {
        layCountsOtherRuns();
        layKeepsWhatHasNoWay();
        layOfTheSameLength();
        ruleTellsWhatItWas();
        rulesWork();
        ruleRefuses();
        limitTellsWhatItWas();
        limitsWork();
        limitRefuses();
        DUE.end();
    }

    private static void layCountsOtherRuns() {
        PipeHouse x = new PipeHouse();
        x.main(0, 0);
        x.hang(0, 2, 1);
        x.hang(1, 4, 1);
        x.hang(0, 24, 1);
        DUE.is("lay(): nothing is other", x.lay(), 0);
        x.price(1, 9);
        x.price(3, 9);
        DUE.is("node(1, 6) ahead", x.node(1, 6), 100);
        DUE.is("lay(): two go around", x.lay(), 2);
        DUE.is("node(1, 6) then", x.node(1, 6), 200);
        DUE.is("run(2, 1) then", x.run(2, 1), 16);
        DUE.is("node(2, 9) then", x.node(2, 9), 400);
        DUE.is("lay() again", x.lay(), 0);
        x.price(1, 1);
        x.price(3, 1);
        DUE.is("lay(): two come back", x.lay(), 2);
        DUE.is("node(2, 9) back", x.node(2, 9), 200);
    }

    private static void layKeepsWhatHasNoWay() {
        PipeHouse x = new PipeHouse();
        x.main(0, 0);
        x.hang(0, 2, 1);
        x.hang(1, 5, 1);
        x.price(0, 0);
        x.price(4, 9);
        DUE.is("lay(): one has no way, one goes around", x.lay(), 1);
        DUE.is("run(1, 1): as it was", x.run(1, 1), 1);
        DUE.is("run(1, 2): as it was", x.run(1, 2), 0);
        DUE.is("node(2, 6): around", x.node(2, 6), 250);
        x.price(0, 1);
        DUE.is("lay(): there is a way again, the same", x.lay(), 0);
        x.price(1, 0);
        x.price(2, 0);
        DUE.is("lay(): its own cell may be a wall", x.lay(), 1);
        DUE.is("node(1, 6) out of a wall", x.node(1, 6), 200);
        DUE.is("node(2, 6): into a wall, as it was", x.node(2, 6), 250);
    }

    private static void layOfTheSameLength() {
        PipeHouse x = new PipeHouse();
        x.main(0, 1);
        x.hang(0, 13, 1);
        DUE.is("run(1, 1) ahead", x.run(1, 1), 1);
        x.price(1, 2);
        DUE.is("lay(): another way as long", x.lay(), 1);
        DUE.is("run(1, 1) then", x.run(1, 1), 12);
        x.price(1, 1);
        DUE.is("lay(): the lesser cell again", x.lay(), 1);
        DUE.is("run(1, 1) back", x.run(1, 1), 1);
    }

    private static void ruleTellsWhatItWas() {
        PipeHouse x = new PipeHouse();
        int[] first = {10, 500, 150, 600};
        int[] least = {1, 0, 1, 50};
        int[] most = {20, 2000, 500, 2000};
        for (int what = 0; what < 4; what++) {
            DUE.is("rule(" + what + ", least)", x.rule(what, least[what]), first[what]);
            DUE.is("rule(" + what + ", most)", x.rule(what, most[what]), least[what]);
            DUE.is("rule(" + what + ", below)", x.rule(what, least[what] - 1), OUTSIDE);
            DUE.is("rule(" + what + ", above)", x.rule(what, most[what] + 1), OUTSIDE);
            DUE.is("rule(" + what + ", first)", x.rule(what, first[what]), most[what]);
        }
    }

    private static void rulesWork() {
        PipeHouse x = new PipeHouse();
        x.main(0, 0);
        x.hang(0, 4, 1);
        DUE.is("node(1, 9) at slope 10", x.node(1, 9), 200);
        x.rule(0, 1);
        DUE.is("node(1, 9) at slope 1", x.node(1, 9), 20);
        x.rule(0, 20);
        DUE.is("node(1, 9) at slope 20", x.node(1, 9), 400);
        DUE.is("node(1, 10) at reach 150", x.node(1, 10), 0);
        x.rule(2, 200);
        DUE.is("node(1, 10) at reach 200", x.node(1, 10), 1);
        x.rule(2, 199);
        DUE.is("node(1, 10) at reach 199", x.node(1, 10), 0);
        DUE.is("bars(0, 2) at bar 600", x.bars(0, 2), 400);
        x.rule(3, 201);
        DUE.is("bars(0, 2) at bar 201", x.bars(0, 2), 1);
    }

    private static void ruleRefuses() {
        PipeHouse x = new PipeHouse();
        DUE.is("rule(-1, 10)", x.rule(-1, 10), OUTSIDE);
        DUE.is("rule(4, 100)", x.rule(4, 100), OUTSIDE);
        DUE.is("rule(MIN, MIN)", x.rule(MIN, MIN), OUTSIDE);
        DUE.is("rule(MAX, MAX)", x.rule(MAX, MAX), OUTSIDE);
        DUE.is("rule(0, MAX)", x.rule(0, MAX), OUTSIDE);
        DUE.is("rule(1, MIN)", x.rule(1, MIN), OUTSIDE);
        DUE.is("rule(0, 10): as it was", x.rule(0, 10), 10);
    }

    private static void limitTellsWhatItWas() {
        PipeHouse x = new PipeHouse();
        DUE.is("limit(5, 2000)", x.limit(5, 2000), 200);
        DUE.is("limit(4, 1999)", x.limit(4, 1999), 60);
        DUE.is("limit(4, 25)", x.limit(4, 25), 1999);
        DUE.is("limit(0, 1)", x.limit(0, 1), 2);
        DUE.is("limit(1, 2)", x.limit(1, 2), 6);
        DUE.is("limit(1, 11)", x.limit(1, 11), 2);
    }

    private static void limitsWork() {
        PipeHouse x = new PipeHouse();
        x.main(0, 0);
        x.hang(0, 4, 6);
        DUE.is("node(1, 8): at its limit", x.node(1, 8), 1);
        x.limit(1, 5);
        DUE.is("node(1, 8): above its limit", x.node(1, 8), 2);
        x.limit(0, 4);
        x.limit(1, 6);
        DUE.is("node(1, 8): below again", x.node(1, 8), 1);
        x.limit(0, 5);
        x.units(1, 5);
        DUE.is("node(1, 8): the least", x.node(1, 8), 0);
    }

    private static void limitRefuses() {
        PipeHouse x = new PipeHouse();
        DUE.is("limit(-1, 1)", x.limit(-1, 1), OUTSIDE);
        DUE.is("limit(6, 300)", x.limit(6, 300), OUTSIDE);
        DUE.is("limit(MIN, 1)", x.limit(MIN, 1), OUTSIDE);
        DUE.is("limit(MAX, 1)", x.limit(MAX, 1), OUTSIDE);
        DUE.is("limit(0, 0)", x.limit(0, 0), OUTSIDE);
        DUE.is("limit(5, 2001)", x.limit(5, 2001), OUTSIDE);
        DUE.is("limit(3, 0): OUTSIDE ahead of NOT", x.limit(3, 0), OUTSIDE);
        DUE.is("limit(3, MAX): OUTSIDE ahead of NOT", x.limit(3, MAX), OUTSIDE);
        DUE.is("limit(0, 6): as the next", x.limit(0, 6), NOT);
        DUE.is("limit(0, 7): above the next", x.limit(0, 7), NOT);
        DUE.is("limit(5, 60): as the one ahead", x.limit(5, 60), NOT);
        DUE.is("limit(5, 1): below the one ahead", x.limit(5, 1), NOT);
        DUE.is("limit(2, 6)", x.limit(2, 6), NOT);
        DUE.is("limit(2, 24)", x.limit(2, 24), NOT);
        DUE.is("limit(2, 7)", x.limit(2, 7), 12);
        DUE.is("limit(2, 23)", x.limit(2, 23), 7);
        DUE.is("limit(0, 2): as it was", x.limit(0, 2), 2);
        DUE.is("node(0, 8): none", x.node(0, 8), UNKNOWN);
        DUE.is("clash(0): none", x.clash(0), NONE);
    }
}
