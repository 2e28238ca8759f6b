/** Many runs of calls, each answer compared with that of PlainHouse. The calls come from a fixed row of numbers. */
public final class CompareTest {
    private static final int RUNS = 240, CALLS = 512;
    private static final int[] FAR_OFF = {-1, -2, 24, 144, 51, 2001, Integer.MIN_VALUE, Integer.MAX_VALUE, 1000, 25};

    private static final Due DUE = new Due("CompareTest");
    private static long seed;

    private final PipeHouse x = new PipeHouse();
    private final PlainHouse plain = new PlainHouse();
    private final int run, walls, nearness;

    private CompareTest(int run) {
        this.run = run;
        walls = below(4);
        nearness = below(3);
    }

    public static void main(String[] args) {
        for (int run = 0; run < RUNS; run++) {
            seed = run * 7919L + 17;
            CompareTest test = new CompareTest(run);
            test.prepare();
            for (int call = 0; call < CALLS && !DUE.hasWrong(); call++) {
                test.callOne();
            }
        }
        DUE.end();
    }

    private static int below(int bound) {
        seed = seed * 6364136223846793005L + 1442695040888963407L;
        return (int) ((seed >>> 33) % bound);
    }

    private static boolean oneIn(int n) {
        return below(n) == 0;
    }

    private static int number(int bound) {
        return oneIn(40) ? FAR_OFF[below(FAR_OFF.length)] : below(bound);
    }

    /** Some runs lie in a corner of the floor, so that their ways meet more often. */
    private int cell() {
        if (oneIn(40)) {
            return FAR_OFF[below(FAR_OFF.length)];
        }
        int side = nearness == 0 ? 12 : nearness == 1 ? 7 : 4;
        return 12 * below(side) + below(side);
    }

    private int node() {
        int known = plain.count(0);
        return known == 0 || oneIn(40) ? number(24) : below(known);
    }

    private int priceToSet() {
        if (oneIn(60)) {
            return 10 + below(5);
        }
        if (walls > 0 && oneIn(6 - walls)) {
            return 0;
        }
        return oneIn(2) ? 1 + below(2) : 1 + below(9);
    }

    private void is(String call, int got, int want) {
        DUE.is("run " + run + ", " + call, got, want);
    }

    private void prepare() {
        int changes = run % 3 == 0 ? 0 : run % 3 == 1 ? 30 : 150;
        for (int k = 0; k < changes; k++) {
            changePrice();
        }
    }

    private void changePrice() {
        int cell = changesAll() ? below(144) : cell();
        int v = priceToSet();
        is("price(" + cell + ", " + v + ")", x.price(cell, v), plain.price(cell, v));
    }

    private boolean changesAll() {
        return run % 2 == 0;
    }

    private void callOne() {
        int kind = below(100);
        if (kind < 4) {
            changePrice();
        } else if (kind < 10) {
            askWays();
        } else if (kind < 14) {
            int cell = cell(), sort = number(2);
            is("main(" + cell + ", " + sort + ")", x.main(cell, sort), plain.main(cell, sort));
        } else if (kind < 34) {
            int n = node(), cell = cell(), units = oneIn(3) ? number(51) : below(4);
            is("hang(" + n + ", " + cell + ", " + units + ")", x.hang(n, cell, units), plain.hang(n, cell, units));
        } else if (kind < 50) {
            changeOne();
        } else {
            ask();
        }
    }

    private void askWays() {
        int from = cell(), to = cell(), i = number(30);
        is("cheapest(" + from + ", " + to + ")", x.cheapest(from, to), plain.cheapest(from, to));
        is("way(" + from + ", " + to + ", " + i + ")", x.way(from, to, i), plain.way(from, to, i));
        int last = plain.way(from, to, 0);
        for (int k = 0; last >= 0 && k < 144; k++) {
            last = plain.way(from, to, k);
            is("way(" + from + ", " + to + ", " + k + ")", x.way(from, to, k), last);
        }
    }

    private void changeOne() {
        int n = node();
        switch (below(7)) {
            case 0:
            case 1:
                int units = oneIn(2) ? number(51) : below(3);
                is("units(" + n + ", " + units + ")", x.units(n, units), plain.units(n, units));
                break;
            case 2:
                boolean on = oneIn(2);
                is("air(" + n + ", " + on + ")", x.air(n, on), plain.air(n, on));
                break;
            case 3:
                int from = oneIn(15) ? number(24) : plain.count(0) - below(3);
                is("cut(" + from + ")", x.cut(from), plain.cut(from));
                break;
            case 4:
                is("lay()", x.lay(), plain.lay());
                break;
            case 5:
                int what = number(4);
                int[] bounds = {21, 2001, 501, 800};
                int v = what < 0 || what > 3 || oneIn(30) ? number(2001) : below(bounds[what]);
                is("rule(" + what + ", " + v + ")", x.rule(what, v), plain.rule(what, v));
                break;
            default:
                int s = number(6), limit = oneIn(20) ? number(2001) : below(20 * (s >= 0 && s < 6 ? s + 1 : 1));
                is("limit(" + s + ", " + limit + ")", x.limit(s, limit), plain.limit(s, limit));
                break;
        }
    }

    private void ask() {
        int n = node();
        switch (below(6)) {
            case 0:
                int what = number(12);
                is("node(" + n + ", " + what + ")", x.node(n, what), plain.node(n, what));
                break;
            case 1:
                int i = number(12);
                is("run(" + n + ", " + i + ")", x.run(n, i), plain.run(n, i));
                is("level(" + n + ", " + i + ")", x.level(n, i), plain.level(n, i));
                break;
            case 2:
                for (int k = -1; k < 4; k++) {
                    is("clash(" + k + ")", x.clash(k), plain.clash(k));
                }
                break;
            case 3:
                for (int k = -1; k < 10; k++) {
                    is("count(" + k + ")", x.count(k), plain.count(k));
                }
                break;
            case 4:
                for (int k = 0; k < 12; k++) {
                    is("node(" + n + ", " + k + ")", x.node(n, k), plain.node(n, k));
                }
                break;
            default:
                int s = oneIn(2) ? 0 : number(6), b = number(4);
                is("bars(" + s + ", " + b + ")", x.bars(s, b), plain.bars(s, b));
                break;
        }
    }
}
