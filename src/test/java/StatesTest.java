/** Promises 31 to 35: states of engines out, and what may be expected. */
public final class StatesTest {
    private static final String LAND = "r0-1=5;r1-2=4;r2-3=6;w0=10;w1=20;w2=30;w3=40;s0,2,3;e0,1";

    private static void due(String what, long got, long want) {
        Checks.due(what, got, want);
    }

    public static void main(String[] args) {
        state();
        worst();
        states();
        expects();
        bestFor();
        Checks.close("StatesTest");
    }

    private static void state() {
        EnginesOut x = Checks.on(LAND);
        due("31: none out", x.state(0), 100);
        Checks.rowIs("31: DOUBLE", x, 20);
        due("31: the first out", x.state(1), 90);
        Checks.rowIs("31: DOUBLE", x, 0);
        due("31: the second out", x.state(2), 30);
        due("31: both out", x.state(3), 0);
        x.call(2);
        x.post(0, 1);
        due("31: all others as if READY at their POSTS", x.state(0), 90);
        Checks.rowIs("31: DOUBLE", x, 90);
        int[] wrong = {4, -1, 64, Integer.MIN_VALUE, Integer.MAX_VALUE};
        for (int bits : wrong) {
            due("31: state(" + bits + ")", x.state(bits), -1);
        }
        Checks.rowIs("31: the ROW stays", x, 90);
        due("31: asked alone", x.count(3), 2);
        EnginesOut none = new EnginesOut();
        due("31: no ENGINES", none.state(0), 0);
        due("31: no ENGINES", none.state(1), -1);
        EnginesOut six = Checks.on("w0=1;s0;e0,0,0,0,0,0");
        due("31: six out", six.state(63), 0);
        due("31: five out", six.state(31), 1);
        due("31: a seventh", six.state(64), -1);
    }

    private static void worst() {
        EnginesOut x = Checks.on("r0-1=5;w0=10;w1=10;w2=7;w3=7;s0,2,3;e2,1,0,1");
        due("32: none out", x.worst(0), 34);
        Checks.rowIs("32: one STATE", x, 0, 1);
        due("32: the third out", x.worst(1), 14);
        Checks.rowIs("32: one STATE", x, 4, 1);
        due("32: the third and the first", x.worst(2), 7);
        Checks.rowIs("32: one STATE", x, 5, 1);
        due("32: one of two that stand at 2, or both", x.worst(3), 7);
        Checks.rowIs("32: the least bits of three", x, 7, 3);
        due("32: all", x.worst(4), 0);
        Checks.rowIs("32: one STATE", x, 15, 1);
        int[] wrong = {5, -1, 6, Integer.MIN_VALUE, Integer.MAX_VALUE};
        for (int k : wrong) {
            due("32: worst(" + k + ")", x.worst(k), -1);
        }
        Checks.rowIs("32: the ROW stays", x, 15, 1);
        x.call(0);
        due("32: whoever is OUT now", x.worst(0), 34);
        EnginesOut none = new EnginesOut();
        due("32: no ENGINES", none.worst(0), 0);
        Checks.rowIs("32: one STATE", none, 0, 1);
        due("32: no ENGINES", none.worst(1), -1);
    }

    private static void states() {
        EnginesOut x = Checks.on(LAND);
        due("33: 0", x.states(0), 4);
        Checks.rowIs("33: by k", x, 1, 2, 1);
        due("33: 30", x.states(30), 3);
        Checks.rowIs("33: by k", x, 1, 2, 0);
        due("33: 31", x.states(31), 2);
        Checks.rowIs("33: by k", x, 1, 1, 0);
        due("33: 100", x.states(100), 1);
        due("33: 101", x.states(101), 0);
        Checks.rowIs("33: by k", x, 0, 0, 0);
        due("33: most of all", x.states(Integer.MAX_VALUE), 0);
        due("33: below 0", x.states(-1), -1);
        due("33: below 0", x.states(Integer.MIN_VALUE), -1);
        Checks.rowIs("33: the ROW stays", x, 0, 0, 0);
        EnginesOut six = Checks.on("w0=1;s0;e0,0,0,0,0,0");
        due("33: all but one", six.states(1), 63);
        Checks.rowIs("33: by k", six, 1, 6, 15, 20, 15, 6, 0);
        six.call(0);
        due("33: whoever is OUT now", six.states(1), 63);
    }

    private static void expects() {
        EnginesOut x = Checks.on(LAND);
        due("34: 500", x.expects(500), 55000);
        due("34: 0", x.expects(0), 100000);
        due("34: 1000", x.expects(1000), 0);
        // F 1 is 667, F 2 is 667 and 333 x 667 by 1000, cut: 667 + 222 = 889.
        due("34: cut", x.expects(333), 10 * 667 + 20 * 889 + 30 * 667 + 40 * 667);
        int[] wrong = {-1, 1001, Integer.MIN_VALUE, Integer.MAX_VALUE};
        for (int p : wrong) {
            due("34: expects(" + p + ")", x.expects(p), -1);
        }
        Checks.rowIs("34: no ROW", x);
        x.call(2);
        due("34: of READY ones", x.expects(500), 15000);
        EnginesOut six = Checks.on("w0=1;s0;e0,0,0,0,0,0");
        // 100, then 90, 81, 72 (72.9), 65 (65.7), 59 (59.2) more.
        due("34: six at one", six.expects(900), 100 + 90 + 81 + 72 + 65 + 59);
    }

    private static void bestFor() {
        EnginesOut x = Checks.on(LAND);
        due("35: both at 2", x.bestFor(500), 67500);
        Checks.rowIs("35: STATIONS, EXPECTED NOW", x, 1, 1, 55000);
        due("35: never out", x.bestFor(0), 100000);
        Checks.rowIs("35: the first row", x, 0, 1, 100000);
        due("35: always out", x.bestFor(1000), 0);
        Checks.rowIs("35: the first row", x, 0, 0, 0);
        int[] wrong = {-1, 1001, Integer.MIN_VALUE, Integer.MAX_VALUE};
        for (int p : wrong) {
            due("35: bestFor(" + p + ")", x.bestFor(p), -1);
        }
        x.call(0);
        due("35: as many as are READY", x.bestFor(100), 81000);
        Checks.rowIs("35: one", x, 1, 81000);
        x.call(0);
        x.covers(1);
        due("35: none is READY", x.bestFor(100), -2);
        due("35: NONE first", x.bestFor(1001), -1);
        Checks.rowIs("35: the ROW stays", x, 3);
        EnginesOut none = new EnginesOut();
        due("35: no STATIONS", none.bestFor(0), -2);
        EnginesOut many = Checks.on("w1=90;w0=1;s0,1;e0,0,0,0");
        // F is 100, 190, 271, 343: all four at 1 are worth more than any three there and one at 0.
        due("35: more than two at one", many.bestFor(900), 90 * 343);
        Checks.rowIs("35: STATIONS, EXPECTED NOW", many, 1, 1, 1, 1, 343);
        EnginesOut large = Checks.on("w0=9;w1=9;w2=9;w3=9;w4=9;w5=9;w6=9;w7=9;s7,6,5,4,3,2,1,0;e0,0,0,0,0,0");
        due("35: six of eight like ones", large.bestFor(300), 6 * 9 * 700);
        // Now all six stand at one: F is 700, then 210, 63, 18 (18.9), 6 (6.3), 2 (2.1) more.
        Checks.rowIs("35: the first row", large, 0, 1, 2, 3, 4, 5, 9 * (700 + 210 + 63 + 18 + 6 + 2));
    }
}
