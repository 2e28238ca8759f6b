import java.util.function.IntSupplier;

/**
 * Many runs of calls, each answer compared with that of PlainHouse. The calls come from a fixed row of numbers; an
 * object is used for 512 calls, as the document has it.
 */
public final class CompareTest {
    private static final int RUNS = 1200, CALLS = 512;
    private static final int[] FAR_OFF = {-1, -2, 24, 144, 51, 2001, Integer.MIN_VALUE, Integer.MAX_VALUE, 1000, 25};

    private static final Due DUE = new Due("CompareTest");
    private static long seed;

    private final PipeHouse x = new PipeHouse();
    private final PlainHouse plain = new PlainHouse();
    private final int run, walls, nearness;
    private int calls;

    private CompareTest(int run) {
        this.run = run;
        walls = below(4);
        nearness = below(3);
    }

    public static void main(String[] args) {
        for (int run = 0; run < RUNS && !DUE.hasWrong(); run++) {
            seed = run * 7919L + 17;
            CompareTest test = new CompareTest(run);
            test.prepare();
            while (test.calls < CALLS && !DUE.hasWrong()) {
                test.callSome();
            }
        }
        DUE.end();
    }

    private static int below(int bound) {
        seed = seed * 6364136223846793005L + 1442695040888963407L;
        return (int) ((seed >>> 33) % bound);
    }

    private static boolean oneIn(int n) {
        return below(n) == 0;
    }

    private static int number(int bound) {
        return oneIn(40) ? FAR_OFF[below(FAR_OFF.length)] : below(bound);
    }

    /** Some runs lie in a corner of the floor, so that their ways meet more often. */
    private int cell() {
        if (oneIn(40)) {
            return FAR_OFF[below(FAR_OFF.length)];
        }
        int side = nearness == 0 ? 12 : nearness == 1 ? 7 : 4;
        return 12 * below(side) + below(side);
    }

    private int node() {
        int known = plain.count(0);
        return known == 0 || oneIn(40) ? number(24) : below(known);
    }

    private int priceToSet() {
        if (oneIn(60)) {
            return 10 + below(5);
        }
        if (walls > 0 && oneIn(6 - walls)) {
            return 0;
        }
        return oneIn(2) ? 1 + below(2) : 1 + below(9);
    }

    /** What comes after the last call of an object is not asked: its answer is free. */
    private void is(String call, IntSupplier got, IntSupplier want) {
        if (calls < CALLS) {
            calls++;
            DUE.is("run " + run + ", " + call, got.getAsInt(), want.getAsInt());
        }
    }

    private void prepare() {
        int changes = run % 3 == 0 ? 0 : run % 3 == 1 ? 30 : 150;
        for (int k = 0; k < changes; k++) {
            changePrice();
        }
    }

    private void changePrice() {
        int cell = run % 2 == 0 ? below(144) : cell();
        int v = priceToSet();
        is("price(" + cell + ", " + v + ")", () -> x.price(cell, v), () -> plain.price(cell, v));
    }

    private void callSome() {
        int kind = below(100);
        if (kind < 4) {
            changePrice();
        } else if (kind < 8) {
            askWays();
        } else if (kind < 12) {
            int cell = cell(), sort = number(2);
            is("main(" + cell + ", " + sort + ")", () -> x.main(cell, sort), () -> plain.main(cell, sort));
        } else if (kind < 40) {
            int n = node(), cell = cell(), units = oneIn(3) ? number(51) : below(4);
            is("hang(" + n + ", " + cell + ", " + units + ")",
                () -> x.hang(n, cell, units), () -> plain.hang(n, cell, units));
        } else if (kind < 60) {
            changeOne();
        } else {
            ask();
        }
    }

    private void askWays() {
        int from = cell(), to = cell(), i = number(30);
        is("cheapest(" + from + ", " + to + ")", () -> x.cheapest(from, to), () -> plain.cheapest(from, to));
        askWay(from, to, i);
        boolean whole = oneIn(3);
        for (int k = 0; whole && k < 144 && plain.way(from, to, k) >= 0; k++) {
            askWay(from, to, k);
        }
    }

    private void askWay(int from, int to, int i) {
        is("way(" + from + ", " + to + ", " + i + ")", () -> x.way(from, to, i), () -> plain.way(from, to, i));
    }

    private void changeOne() {
        int n = node();
        switch (below(7)) {
            case 0:
            case 1:
                int units = oneIn(2) ? number(51) : below(3);
                is("units(" + n + ", " + units + ")", () -> x.units(n, units), () -> plain.units(n, units));
                break;
            case 2:
                boolean on = oneIn(2);
                is("air(" + n + ", " + on + ")", () -> x.air(n, on), () -> plain.air(n, on));
                break;
            case 3:
                int from = oneIn(15) ? number(24) : plain.count(0) - below(3);
                is("cut(" + from + ")", () -> x.cut(from), () -> plain.cut(from));
                break;
            case 4:
                is("lay()", x::lay, plain::lay);
                break;
            case 5:
                changeRule();
                break;
            default:
                int s = number(6), limit = oneIn(20) ? number(2001) : below(20 * (s >= 0 && s < 6 ? s + 1 : 1));
                is("limit(" + s + ", " + limit + ")", () -> x.limit(s, limit), () -> plain.limit(s, limit));
                break;
        }
    }

    private void changeRule() {
        int what = number(4);
        int[] bounds = {21, 2001, 501, 800};
        int v = what < 0 || what > 3 || oneIn(30) ? number(2001) : below(bounds[what]);
        is("rule(" + what + ", " + v + ")", () -> x.rule(what, v), () -> plain.rule(what, v));
    }

    private void ask() {
        int n = node();
        switch (below(6)) {
            case 0:
                askNode(n, number(12));
                break;
            case 1:
                int i = number(12);
                is("run(" + n + ", " + i + ")", () -> x.run(n, i), () -> plain.run(n, i));
                is("level(" + n + ", " + i + ")", () -> x.level(n, i), () -> plain.level(n, i));
                break;
            case 2:
                for (int k = -1; k < 4; k++) {
                    int what = k;
                    is("clash(" + what + ")", () -> x.clash(what), () -> plain.clash(what));
                }
                break;
            case 3:
                for (int k = -1; k < 10; k++) {
                    int what = k;
                    is("count(" + what + ")", () -> x.count(what), () -> plain.count(what));
                }
                break;
            case 4:
                for (int what = 0; what < 12; what++) {
                    askNode(n, what);
                }
                break;
            default:
                int s = oneIn(2) ? 0 : number(6), b = number(4);
                is("bars(" + s + ", " + b + ")", () -> x.bars(s, b), () -> plain.bars(s, b));
                break;
        }
    }

    private void askNode(int n, int what) {
        is("node(" + n + ", " + what + ")", () -> x.node(n, what), () -> plain.node(n, what));
    }
}
