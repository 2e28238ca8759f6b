/** Promises 5 to 9: main, hang, units, air, cut. */
public final class NodesTest {
    private static final Due DUE = new Due("NodesTest");
    private static final int NONE = -1, UNKNOWN = -1001, OUTSIDE = -1002, NOT = -1003, FULL = -1004;
    private static final int MIN = Integer.MIN_VALUE, MAX = Integer.MAX_VALUE;

    public static void main(String[] args) {
        mainMakesNodes();
        mainRefuses();
        hangMakesNodes();
        hangKeepsItsWay();
        hangRefuses();
        hangWhenFull();
        unitsTellWhatTheyWere();
        unitsRefuse();
        airTellsWhatItWas();
        airRefuses();
        cutTakesTheLast();
        cutForgets();
        cutRefuses();
        DUE.end();
    }

    private static void mainMakesNodes() {
        PipeHouse x = new PipeHouse();
        DUE.is("main(5, 0)", x.main(5, 0), 0);
        DUE.is("main(5, 1): in the same cell", x.main(5, 1), 1);
        x.price(7, 0);
        DUE.is("main(7, 0): in a wall", x.main(7, 0), 2);
        DUE.is("node(0, 0)", x.node(0, 0), 5);
        DUE.is("node(0, 1)", x.node(0, 1), NONE);
        DUE.is("node(0, 2)", x.node(0, 2), 0);
        DUE.is("node(1, 2)", x.node(1, 2), 1);
        DUE.is("node(0, 3): no units at first", x.node(0, 3), 0);
        DUE.is("count(0)", x.count(0), 3);
        DUE.is("count(1)", x.count(1), 3);
    }

    private static void mainRefuses() {
        PipeHouse x = new PipeHouse();
        DUE.is("main(-1, 0)", x.main(-1, 0), UNKNOWN);
        DUE.is("main(144, 0)", x.main(144, 0), UNKNOWN);
        DUE.is("main(144, 2): UNKNOWN first", x.main(144, 2), UNKNOWN);
        DUE.is("main(0, 2)", x.main(0, 2), OUTSIDE);
        DUE.is("main(0, -1)", x.main(0, -1), OUTSIDE);
        DUE.is("main(MIN, MAX)", x.main(MIN, MAX), UNKNOWN);
        DUE.is("main(0, MIN)", x.main(0, MIN), OUTSIDE);
        DUE.is("count(0): none was made", x.count(0), 0);
        for (int n = 0; n < 24; n++) {
            DUE.is("main " + n, x.main(n, n % 2), n);
        }
        DUE.is("the 25th main", x.main(0, 0), FULL);
        DUE.is("the 25th main, OUTSIDE first", x.main(0, 2), OUTSIDE);
        DUE.is("the 25th main, UNKNOWN first", x.main(144, 0), UNKNOWN);
        DUE.is("count(0) when full", x.count(0), 24);
    }

    private static void hangMakesNodes() {
        PipeHouse x = new PipeHouse();
        x.main(0, 1);
        DUE.is("hang(0, 14, 7)", x.hang(0, 14, 7), 1);
        DUE.is("hang(1, 0, 50): in the main's cell, on another node", x.hang(1, 0, 50), 2);
        DUE.is("hang(0, 14, 0): no units", x.hang(0, 14, 0), 3);
        DUE.is("node(1, 0)", x.node(1, 0), 14);
        DUE.is("node(1, 1)", x.node(1, 1), 0);
        DUE.is("node(2, 1)", x.node(2, 1), 1);
        DUE.is("node(1, 2): its main's sort", x.node(1, 2), 1);
        DUE.is("node(2, 2): its main's sort", x.node(2, 2), 1);
        DUE.is("node(1, 3)", x.node(1, 3), 7);
        DUE.is("run(1, 0)", x.run(1, 0), 14);
        DUE.is("run(1, 1): the lesser cell first", x.run(1, 1), 2);
        DUE.is("run(1, 2)", x.run(1, 2), 1);
        DUE.is("run(1, 3)", x.run(1, 3), 0);
        DUE.is("run(1, 4)", x.run(1, 4), NONE);
        x.price(40, 0);
        DUE.is("hang(0, 40, 1): its own cell a wall", x.hang(0, 40, 1), 4);
        DUE.is("run(4, 0)", x.run(4, 0), 40);
    }

    private static void hangKeepsItsWay() {
        PipeHouse x = new PipeHouse();
        x.main(0, 0);
        x.hang(0, 2, 1);
        x.price(1, 9);
        DUE.is("run(1, 1): by the prices when it was hung", x.run(1, 1), 1);
        x.hang(0, 2, 1);
        DUE.is("run(2, 1): by the new ones", x.run(2, 1), 14);
        x.price(0, 0);
        DUE.is("run(1, 2): the wall came later", x.run(1, 2), 0);
    }

    private static void hangRefuses() {
        PipeHouse x = new PipeHouse();
        DUE.is("hang(0, 1, 1): no node", x.hang(0, 1, 1), UNKNOWN);
        x.main(0, 0);
        DUE.is("hang(1, 1, 1)", x.hang(1, 1, 1), UNKNOWN);
        DUE.is("hang(-1, 1, 1)", x.hang(-1, 1, 1), UNKNOWN);
        DUE.is("hang(0, -1, 1)", x.hang(0, -1, 1), UNKNOWN);
        DUE.is("hang(0, 144, 1)", x.hang(0, 144, 1), UNKNOWN);
        DUE.is("hang(0, 144, 51): UNKNOWN first", x.hang(0, 144, 51), UNKNOWN);
        DUE.is("hang(1, 1, 51): UNKNOWN first", x.hang(1, 1, 51), UNKNOWN);
        DUE.is("hang(0, 1, 51)", x.hang(0, 1, 51), OUTSIDE);
        DUE.is("hang(0, 1, -1)", x.hang(0, 1, -1), OUTSIDE);
        DUE.is("hang(0, 0, 51): OUTSIDE ahead of NOT", x.hang(0, 0, 51), OUTSIDE);
        DUE.is("hang(0, 0, 1): n's own cell", x.hang(0, 0, 1), NOT);
        DUE.is("hang(MAX, MIN, MAX)", x.hang(MAX, MIN, MAX), UNKNOWN);
        DUE.is("hang(0, 1, MIN)", x.hang(0, 1, MIN), OUTSIDE);
        x.price(0, 0);
        DUE.is("hang(0, 1, 1): a wall where it is to go", x.hang(0, 1, 1), NOT);
        x.price(0, 1);
        x.price(1, 0);
        x.price(12, 0);
        DUE.is("hang(0, 50, 1): walled in", x.hang(0, 50, 1), NOT);
        DUE.is("hang(0, 1, 50): out of the wall beside it", x.hang(0, 1, 50), 1);
        DUE.is("count(0)", x.count(0), 2);
    }

    private static void hangWhenFull() {
        PipeHouse x = new PipeHouse();
        x.main(0, 0);
        for (int n = 1; n < 24; n++) {
            DUE.is("hang " + n, x.hang(n - 1, n, 1), n);
        }
        DUE.is("hang(0, 5, 1) when full", x.hang(0, 5, 1), FULL);
        DUE.is("hang(0, 0, 1) when full: NOT first", x.hang(0, 0, 1), NOT);
        DUE.is("hang(0, 5, 51) when full: OUTSIDE first", x.hang(0, 5, 51), OUTSIDE);
        DUE.is("hang(24, 5, 1) when full: UNKNOWN first", x.hang(24, 5, 1), UNKNOWN);
        x.price(0, 0);
        DUE.is("hang(0, 5, 1) when full, without a way: NOT first", x.hang(0, 5, 1), NOT);
        DUE.is("node(0, 5) when full", x.node(0, 5), 23);
        // 11 steps along the first row, 12 back to the second one, 11 along it.
        DUE.is("node(23, 9) when full", x.node(23, 9), (11 + 12 + 11) * 50);
    }

    private static void unitsTellWhatTheyWere() {
        PipeHouse x = new PipeHouse();
        x.main(0, 0);
        x.hang(0, 3, 4);
        DUE.is("units(1, 50)", x.units(1, 50), 4);
        DUE.is("units(1, 0)", x.units(1, 0), 50);
        DUE.is("units(1, 9)", x.units(1, 9), 0);
        DUE.is("units(0, 5): of a main", x.units(0, 5), 0);
        DUE.is("node(1, 3)", x.node(1, 3), 9);
        DUE.is("node(0, 3)", x.node(0, 3), 5);
        DUE.is("node(0, 5)", x.node(0, 5), 14);
    }

    private static void unitsRefuse() {
        PipeHouse x = new PipeHouse();
        x.main(0, 0);
        DUE.is("units(1, 1)", x.units(1, 1), UNKNOWN);
        DUE.is("units(-1, 1)", x.units(-1, 1), UNKNOWN);
        DUE.is("units(1, 51): UNKNOWN first", x.units(1, 51), UNKNOWN);
        DUE.is("units(0, 51)", x.units(0, 51), OUTSIDE);
        DUE.is("units(0, -1)", x.units(0, -1), OUTSIDE);
        DUE.is("units(MIN, 0)", x.units(MIN, 0), UNKNOWN);
        DUE.is("units(0, MAX)", x.units(0, MAX), OUTSIDE);
        DUE.is("node(0, 3)", x.node(0, 3), 0);
    }

    private static void airTellsWhatItWas() {
        PipeHouse x = new PipeHouse();
        x.main(0, 0);
        x.hang(0, 3, 1);
        DUE.is("node(0, 4): mains of drains are aired", x.node(0, 4), 1);
        DUE.is("node(1, 4): not at first", x.node(1, 4), 0);
        DUE.is("air(1, false)", x.air(1, false), 0);
        DUE.is("air(1, true)", x.air(1, true), 0);
        DUE.is("node(1, 4)", x.node(1, 4), 1);
        DUE.is("air(1, true) again", x.air(1, true), 1);
        DUE.is("air(1, false) then", x.air(1, false), 1);
        DUE.is("node(1, 4) then", x.node(1, 4), 0);
    }

    private static void airRefuses() {
        PipeHouse x = new PipeHouse();
        x.main(0, 0);
        x.main(1, 1);
        x.hang(1, 5, 1);
        DUE.is("air(3, true)", x.air(3, true), UNKNOWN);
        DUE.is("air(-1, false)", x.air(-1, false), UNKNOWN);
        DUE.is("air(MAX, true)", x.air(MAX, true), UNKNOWN);
        DUE.is("air(0, true): a main", x.air(0, true), NOT);
        DUE.is("air(0, false): a main", x.air(0, false), NOT);
        DUE.is("air(1, true): a hot main", x.air(1, true), NOT);
        DUE.is("air(2, true): hot", x.air(2, true), NOT);
        DUE.is("node(0, 4)", x.node(0, 4), 1);
        DUE.is("node(1, 4): what is hot never is", x.node(1, 4), 0);
        DUE.is("node(2, 4): what is hot never is", x.node(2, 4), 0);
    }

    private static void cutTakesTheLast() {
        PipeHouse x = new PipeHouse();
        x.main(0, 0);
        x.hang(0, 3, 1);
        x.main(9, 0);
        x.hang(1, 6, 2);
        x.hang(2, 20, 4);
        DUE.is("node(1, 5) ahead", x.node(1, 5), 3);
        DUE.is("cut(2): also what does not hang on it", x.cut(2), 3);
        DUE.is("count(0)", x.count(0), 2);
        DUE.is("node(1, 5) then", x.node(1, 5), 1);
        DUE.is("node(0, 5) then", x.node(0, 5), 1);
        DUE.is("node(2, 0) then", x.node(2, 0), UNKNOWN);
        DUE.is("cut(1): the last", x.cut(1), 1);
        DUE.is("cut(0)", x.cut(0), 1);
        DUE.is("cut(0) again", x.cut(0), UNKNOWN);
    }

    private static void cutForgets() {
        PipeHouse x = new PipeHouse();
        x.main(0, 0);
        x.hang(0, 3, 5);
        x.air(1, true);
        x.cut(1);
        DUE.is("hang after cut", x.hang(0, 4, 0), 1);
        DUE.is("node(1, 4) after cut", x.node(1, 4), 0);
        DUE.is("node(1, 3) after cut", x.node(1, 3), 0);
        DUE.is("node(1, 0) after cut", x.node(1, 0), 4);
        DUE.is("node(1, 6) after cut", x.node(1, 6), 200);
        x.cut(0);
        x.main(0, 1);
        x.main(7, 1);
        DUE.is("node(0, 4): hot after a drain", x.node(0, 4), 0);
        DUE.is("node(1, 6): a main after a run", x.node(1, 6), 0);
        DUE.is("run(1, 0): a main after a run", x.run(1, 0), NONE);
        DUE.is("node(1, 1): a main after a run", x.node(1, 1), NONE);
        x.cut(0);
        for (int n = 0; n < 24; n++) {
            x.main(n, 0);
        }
        DUE.is("cut(23)", x.cut(23), 1);
        DUE.is("main after cut(23)", x.main(0, 0), 23);
        DUE.is("cut(0) of all", x.cut(0), 24);
    }

    private static void cutRefuses() {
        PipeHouse x = new PipeHouse();
        x.main(0, 0);
        DUE.is("cut(1)", x.cut(1), UNKNOWN);
        DUE.is("cut(-1)", x.cut(-1), UNKNOWN);
        DUE.is("cut(MIN)", x.cut(MIN), UNKNOWN);
        DUE.is("cut(MAX)", x.cut(MAX), UNKNOWN);
        DUE.is("count(0)", x.count(0), 1);
    }
}
