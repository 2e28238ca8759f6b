import java.util.ArrayList;
import java.util.List;

/**
 * REFUSALS: which of two comes first, and that what is refused changes nothing. For each refused call a house is made
 * twice, with the call and without it; all that can be asked of both must be the same.
 */
public final class RefusalsTest {
    private static final Due DUE = new Due("RefusalsTest");
    private static final int NONE = -1, UNKNOWN = -1001, OUTSIDE = -1002, NOT = -1003, FULL = -1004;
    private static final int MIN = Integer.MIN_VALUE, MAX = Integer.MAX_VALUE;
    private static final int CELLS = 144, CALLS = 512;

    private interface House {
        PipeHouse make();
    }

    private interface Call {
        int on(PipeHouse x);
    }

    /** A part of what can be asked, few enough calls for one object. */
    private interface Questions {
        void ask(PipeHouse x, List<Integer> answers);
    }

    private static final Questions[] ALL = {
        RefusalsTest::askNodes, RefusalsTest::askRuns, RefusalsTest::askLevels, RefusalsTest::askTheRest
    };

    private static House house;
    private static List<List<Integer>> before;

    public static void main(String[] args) {
        callsOf(RefusalsTest::anEmptyHouse);
        anEmptyHouseRefuses();
        callsOf(RefusalsTest::aHouse);
        theFloorRefuses();
        nodesRefuse();
        rulesRefuse();
        questionsAreRefused();
        callsOf(RefusalsTest::aFullHouse);
        aFullHouseRefuses();
        callsOf(() -> Scenes.comb(0, 13));
        tooManyPiecesAreRefused();
        thePictureSeesChanges();
        DUE.end();
    }

    // ---- the houses

    private static PipeHouse anEmptyHouse() {
        return new PipeHouse();
    }

    /** Node 0 a main of drains in 0 with 1 to 4, node 5 a main of hot with 6 and 7, node 8 a main behind walls. */
    private static PipeHouse aHouse() {
        PipeHouse x = new PipeHouse();
        x.main(0, 0);
        x.hang(0, 5, 3);
        x.hang(1, 41, 2);
        x.hang(0, 40, 1);
        x.hang(2, 1, 50);
        x.main(143, 1);
        x.hang(5, 140, 2);
        x.hang(6, 104, 1);
        x.main(132, 0);
        x.price(120, 0);
        x.price(133, 0);
        x.price(7, 9);
        x.price(2, 4);
        x.air(2, true);
        x.units(0, 2);
        x.rule(0, 12);
        x.rule(1, 700);
        x.rule(2, 250);
        x.rule(3, 333);
        x.limit(5, 300);
        x.limit(0, 1);
        return x;
    }

    private static PipeHouse aFullHouse() {
        PipeHouse x = aHouse();
        for (int n = 9; n < 24; n++) {
            x.hang(n - 2 == 8 ? 1 : n - 2, 3 * n, n);
        }
        return x;
    }

    // ---- all that can be asked

    private static void askNodes(PipeHouse x, List<Integer> answers) {
        for (int what = 0; what <= 8; what++) {
            answers.add(x.count(what));
        }
        for (int what = 0; what <= 2; what++) {
            answers.add(x.clash(what));
        }
        int nodes = x.count(0);
        for (int n = 0; n < nodes; n++) {
            for (int what = 0; what <= 11; what++) {
                answers.add(x.node(n, what));
            }
        }
        for (int s = 0; s <= 5; s++) {
            for (int what = 0; what <= 3; what++) {
                answers.add(x.bars(s, what));
            }
        }
    }

    private static void askRuns(PipeHouse x, List<Integer> answers) {
        int nodes = x.count(0);
        for (int n = 0; n < nodes; n++) {
            for (int i = 0; i < 16; i++) {
                answers.add(x.run(n, i));
            }
        }
    }

    private static void askLevels(PipeHouse x, List<Integer> answers) {
        int nodes = x.count(0);
        for (int n = 0; n < nodes; n++) {
            for (int i = 0; i < 16; i++) {
                answers.add(x.level(n, i));
            }
        }
    }

    /** These questions change what they ask for, so each comes once. */
    private static void askTheRest(PipeHouse x, List<Integer> answers) {
        for (int cell = 0; cell < CELLS; cell++) {
            answers.add(x.price(cell, 1));
        }
        int[] values = {10, 500, 150, 600};
        for (int what = 0; what < values.length; what++) {
            answers.add(x.rule(what, values[what]));
        }
        for (int s = 5; s >= 0; s--) {
            answers.add(x.limit(s, 1995 + s));
        }
        int nodes = x.count(0);
        for (int n = 0; n < nodes; n++) {
            answers.add(x.air(n, true));
            answers.add(x.units(n, 0));
        }
        answers.add(x.main(0, 0));
        answers.add(x.lay());
        answers.add(x.cut(0));
    }

    private static List<Integer> answersOf(PipeHouse x, Questions questions) {
        List<Integer> answers = new ArrayList<>();
        questions.ask(x, answers);
        DUE.isTrue("few enough questions for one object", answers.size() < CALLS - 50);
        return answers;
    }

    // ---- a refused call

    private static void callsOf(House next) {
        house = next;
        before = new ArrayList<>();
        for (Questions questions : ALL) {
            before.add(answersOf(house.make(), questions));
        }
    }

    private static void refuses(String name, int due, Call call) {
        DUE.sentence("of several the first in this order");
        PipeHouse x = house.make();
        DUE.is(name, call.on(x), due);
        DUE.is(name + " again", call.on(x), due);
        DUE.sentence("What is refused changes nothing.");
        for (int k = 0; k < ALL.length; k++) {
            DUE.isTrue(name + " changes nothing, " + k, changesNothing(call, k));
        }
    }

    private static boolean changesNothing(Call call, int k) {
        PipeHouse x = house.make();
        call.on(x);
        return answersOf(x, ALL[k]).equals(before.get(k));
    }

    /** What is taken is seen in what is asked: else the comparison would be worth nothing. */
    private static void thePictureSeesChanges() {
        DUE.sentence("What is refused changes nothing.");
        callsOf(RefusalsTest::aHouse);
        Call[] calls = {
            x -> x.price(77, 2), x -> x.price(120, 1), x -> x.main(0, 0), x -> x.hang(0, 1, 0), x -> x.units(4, 49),
            x -> x.units(0, 1), x -> x.air(1, true), x -> x.air(2, false), x -> x.cut(8), x -> x.lay(), x -> x.rule(0, 13),
            x -> x.rule(1, 701), x -> x.rule(2, 251), x -> x.rule(3, 332), x -> x.limit(0, 2), x -> x.limit(5, 299)
        };
        for (int c = 0; c < calls.length; c++) {
            boolean same = true;
            for (int k = 0; k < ALL.length; k++) {
                same = same && changesNothing(calls[c], k);
            }
            DUE.isTrue("the change " + c + " is seen", !same);
        }
    }

    private static void anEmptyHouseRefuses() {
        refuses("empty: hang(0, 1, 1)", UNKNOWN, x -> x.hang(0, 1, 1));
        refuses("empty: units(0, 1)", UNKNOWN, x -> x.units(0, 1));
        refuses("empty: air(0, true)", UNKNOWN, x -> x.air(0, true));
        refuses("empty: cut(0)", UNKNOWN, x -> x.cut(0));
        refuses("empty: cut(-1)", UNKNOWN, x -> x.cut(-1));
        refuses("empty: node(0, 0)", UNKNOWN, x -> x.node(0, 0));
        refuses("empty: run(0, 0)", UNKNOWN, x -> x.run(0, 0));
        refuses("empty: level(0, 0)", UNKNOWN, x -> x.level(0, 0));
        refuses("empty: main(0, 2)", OUTSIDE, x -> x.main(0, 2));
        refuses("empty: limit(0, 6)", NOT, x -> x.limit(0, 6));
        refuses("empty: bars(0, 4)", OUTSIDE, x -> x.bars(0, 4));
    }

    private static void theFloorRefuses() {
        refuses("price(-1, 5)", UNKNOWN, x -> x.price(-1, 5));
        refuses("price(144, 5)", UNKNOWN, x -> x.price(144, 5));
        refuses("price(143, -1)", OUTSIDE, x -> x.price(143, -1));
        refuses("price(0, 10)", OUTSIDE, x -> x.price(0, 10));
        refuses("price(144, 10): UNKNOWN ahead of OUTSIDE", UNKNOWN, x -> x.price(144, 10));
        refuses("price(-1, -1): UNKNOWN ahead of OUTSIDE", UNKNOWN, x -> x.price(-1, -1));
        refuses("cheapest(144, 0)", UNKNOWN, x -> x.cheapest(144, 0));
        refuses("cheapest(0, -1)", UNKNOWN, x -> x.cheapest(0, -1));
        refuses("cheapest(0, 132): no way", NONE, x -> x.cheapest(0, 132));
        refuses("cheapest(0, 144): no such cell, ahead of no way", UNKNOWN, x -> x.cheapest(0, 144));
        refuses("way(132, 144, 0): no such cell, ahead of no way", UNKNOWN, x -> x.way(132, 144, 0));
        refuses("way(-1, 0, 99): no such cell, ahead of none such", UNKNOWN, x -> x.way(-1, 0, 99));
        refuses("way(0, 132, 0): no way", NONE, x -> x.way(0, 132, 0));
        refuses("way(0, 1, 2): none such", NONE, x -> x.way(0, 1, 2));
    }

    private static void nodesRefuse() {
        refuses("main(-1, 0)", UNKNOWN, x -> x.main(-1, 0));
        refuses("main(144, 1)", UNKNOWN, x -> x.main(144, 1));
        refuses("main(0, -1)", OUTSIDE, x -> x.main(0, -1));
        refuses("main(0, 2)", OUTSIDE, x -> x.main(0, 2));
        refuses("main(144, 2): UNKNOWN ahead of OUTSIDE", UNKNOWN, x -> x.main(144, 2));
        refuses("hang(9, 1, 1)", UNKNOWN, x -> x.hang(9, 1, 1));
        refuses("hang(-1, 1, 1)", UNKNOWN, x -> x.hang(-1, 1, 1));
        refuses("hang(0, 144, 1)", UNKNOWN, x -> x.hang(0, 144, 1));
        refuses("hang(0, 1, 51)", OUTSIDE, x -> x.hang(0, 1, 51));
        refuses("hang(0, 1, -1)", OUTSIDE, x -> x.hang(0, 1, -1));
        refuses("hang(0, 0, 1): n's cell", NOT, x -> x.hang(0, 0, 1));
        refuses("hang(2, 41, 1): n's cell", NOT, x -> x.hang(2, 41, 1));
        refuses("hang(8, 0, 1): no way", NOT, x -> x.hang(8, 0, 1));
        refuses("hang(0, 132, 1): no way", NOT, x -> x.hang(0, 132, 1));
        refuses("hang(9, 1, 51): UNKNOWN ahead of OUTSIDE", UNKNOWN, x -> x.hang(9, 1, 51));
        refuses("hang(0, 144, -1): UNKNOWN ahead of OUTSIDE", UNKNOWN, x -> x.hang(0, 144, -1));
        refuses("hang(8, 144, 1): UNKNOWN ahead of NOT", UNKNOWN, x -> x.hang(8, 144, 1));
        refuses("hang(0, 0, 51): OUTSIDE ahead of NOT", OUTSIDE, x -> x.hang(0, 0, 51));
        refuses("hang(8, 0, 51): OUTSIDE ahead of NOT", OUTSIDE, x -> x.hang(8, 0, 51));
        refuses("units(9, 1)", UNKNOWN, x -> x.units(9, 1));
        refuses("units(-1, 1)", UNKNOWN, x -> x.units(-1, 1));
        refuses("units(1, 51)", OUTSIDE, x -> x.units(1, 51));
        refuses("units(1, -1)", OUTSIDE, x -> x.units(1, -1));
        refuses("units(9, 51): UNKNOWN ahead of OUTSIDE", UNKNOWN, x -> x.units(9, 51));
        refuses("units(-1, -1): UNKNOWN ahead of OUTSIDE", UNKNOWN, x -> x.units(-1, -1));
        refuses("air(9, true)", UNKNOWN, x -> x.air(9, true));
        refuses("air(-1, false)", UNKNOWN, x -> x.air(-1, false));
        refuses("air(0, false): a main of drains", NOT, x -> x.air(0, false));
        refuses("air(5, true): a main of hot", NOT, x -> x.air(5, true));
        refuses("air(7, true): hot", NOT, x -> x.air(7, true));
        refuses("cut(9)", UNKNOWN, x -> x.cut(9));
        refuses("cut(-1)", UNKNOWN, x -> x.cut(-1));
        refuses("cut(24)", UNKNOWN, x -> x.cut(24));
        refuses("cut(MIN)", UNKNOWN, x -> x.cut(MIN));
        refuses("cut(MAX)", UNKNOWN, x -> x.cut(MAX));
    }

    private static void rulesRefuse() {
        int[] least = {1, 0, 1, 50};
        int[] most = {20, 2000, 500, 2000};
        for (int k = 0; k < least.length; k++) {
            int what = k;
            refuses("rule(" + k + ", too little)", OUTSIDE, x -> x.rule(what, least[what] - 1));
            refuses("rule(" + k + ", too much)", OUTSIDE, x -> x.rule(what, most[what] + 1));
        }
        refuses("rule(-1, 10)", OUTSIDE, x -> x.rule(-1, 10));
        refuses("rule(4, 100)", OUTSIDE, x -> x.rule(4, 100));
        refuses("limit(-1, 1)", OUTSIDE, x -> x.limit(-1, 1));
        refuses("limit(6, 1000)", OUTSIDE, x -> x.limit(6, 1000));
        refuses("limit(0, 0)", OUTSIDE, x -> x.limit(0, 0));
        refuses("limit(5, 2001)", OUTSIDE, x -> x.limit(5, 2001));
        refuses("limit(0, 6): as the next one", NOT, x -> x.limit(0, 6));
        refuses("limit(1, 1): as the one ahead", NOT, x -> x.limit(1, 1));
        refuses("limit(3, 60): as the next one", NOT, x -> x.limit(3, 60));
        refuses("limit(5, 60): as the one ahead", NOT, x -> x.limit(5, 60));
        refuses("limit(3, 0): OUTSIDE ahead of NOT", OUTSIDE, x -> x.limit(3, 0));
        refuses("limit(3, 2001): OUTSIDE ahead of NOT", OUTSIDE, x -> x.limit(3, 2001));
    }

    private static void questionsAreRefused() {
        refuses("node(9, 0)", UNKNOWN, x -> x.node(9, 0));
        refuses("node(0, 12)", OUTSIDE, x -> x.node(0, 12));
        refuses("node(0, -1)", OUTSIDE, x -> x.node(0, -1));
        refuses("node(9, 12): UNKNOWN ahead of OUTSIDE", UNKNOWN, x -> x.node(9, 12));
        refuses("node(-1, -1): UNKNOWN ahead of OUTSIDE", UNKNOWN, x -> x.node(-1, -1));
        refuses("run(9, 0)", UNKNOWN, x -> x.run(9, 0));
        refuses("run(9, -1): no such node, ahead of no such cell", UNKNOWN, x -> x.run(9, -1));
        refuses("run(1, 99): no such cell", NONE, x -> x.run(1, 99));
        refuses("level(9, 0)", UNKNOWN, x -> x.level(9, 0));
        refuses("level(-1, -1): UNKNOWN ahead of NOT", UNKNOWN, x -> x.level(-1, -1));
        refuses("level(9, 99): UNKNOWN ahead of NOT", UNKNOWN, x -> x.level(9, 99));
        refuses("level(1, 99)", NOT, x -> x.level(1, 99));
        refuses("level(6, 0): hot", NOT, x -> x.level(6, 0));
        refuses("clash(3)", OUTSIDE, x -> x.clash(3));
        refuses("clash(-1)", OUTSIDE, x -> x.clash(-1));
        refuses("count(9)", OUTSIDE, x -> x.count(9));
        refuses("count(-1)", OUTSIDE, x -> x.count(-1));
        refuses("bars(6, 0)", OUTSIDE, x -> x.bars(6, 0));
        refuses("bars(0, 4)", OUTSIDE, x -> x.bars(0, 4));
    }

    private static void aFullHouseRefuses() {
        refuses("full: main(0, 0)", FULL, x -> x.main(0, 0));
        refuses("full: main(0, 2): OUTSIDE ahead of FULL", OUTSIDE, x -> x.main(0, 2));
        refuses("full: main(144, 0): UNKNOWN ahead of FULL", UNKNOWN, x -> x.main(144, 0));
        refuses("full: main(144, 2): UNKNOWN ahead of both", UNKNOWN, x -> x.main(144, 2));
        refuses("full: hang(0, 1, 1)", FULL, x -> x.hang(0, 1, 1));
        refuses("full: hang(23, 1, 1)", FULL, x -> x.hang(23, 1, 1));
        refuses("full: hang(0, 0, 1): NOT ahead of FULL", NOT, x -> x.hang(0, 0, 1));
        refuses("full: hang(0, 132, 1): NOT ahead of FULL", NOT, x -> x.hang(0, 132, 1));
        refuses("full: hang(0, 1, 51): OUTSIDE ahead of FULL", OUTSIDE, x -> x.hang(0, 1, 51));
        refuses("full: hang(0, 0, 51): OUTSIDE ahead of both", OUTSIDE, x -> x.hang(0, 0, 51));
        refuses("full: hang(24, 1, 1): UNKNOWN ahead of FULL", UNKNOWN, x -> x.hang(24, 1, 1));
        refuses("full: hang(0, 144, 1): UNKNOWN ahead of FULL", UNKNOWN, x -> x.hang(0, 144, 1));
        refuses("full: cut(24)", UNKNOWN, x -> x.cut(24));
        refuses("full: units(24, 1)", UNKNOWN, x -> x.units(24, 1));
        refuses("full: air(24, true)", UNKNOWN, x -> x.air(24, true));
        refuses("full: node(24, 0)", UNKNOWN, x -> x.node(24, 0));
    }

    private static void tooManyPiecesAreRefused() {
        refuses("bars(0, 1) of 13 pieces", NOT, x -> x.bars(0, 1));
        refuses("bars(0, 2) of 13 pieces", NOT, x -> x.bars(0, 2));
        refuses("bars(0, 4) of 13 pieces: OUTSIDE", OUTSIDE, x -> x.bars(0, 4));
        refuses("bars(-1, 1) of 13 pieces: OUTSIDE", OUTSIDE, x -> x.bars(-1, 1));
        refuses("bars(6, 2) of 13 pieces: OUTSIDE", OUTSIDE, x -> x.bars(6, 2));
    }
}
