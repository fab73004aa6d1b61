/** Promises 31 to 35, sentence by sentence. */
final class EdgeStates {
    private static final int LEAST = Integer.MIN_VALUE;
    private static final int MOST = Integer.MAX_VALUE;
    /** ENGINES 0, 1 reach NODES 0 1, 1 2 3: 30, 90. */
    private static final String LINE = "r0-1=5;r1-2=4;r2-3=6;w0=10;w1=20;w2=30;w3=40;s0,2,3;e0,1";
    private static final String SIX = "w0=1;w1=2;w2=4;w3=8;w4=16;w5=32;s0,1,2,3,4,5;e0,1,2,3,4,5";

    private EdgeStates() {
    }

    static void run() {
        state();
        worst();
        states();
        expects();
        bestFor();
        bestForNone();
    }

    private static void state() {
        Edge.says(31, "COVER if these ENGINES (bits) were OUT and all others READY at their POSTS;");
        EnginesOut x = Checks.on(LINE);
        int[] due = {100, 90, 30, 0};
        for (int out = 0; out < 4; out++) {
            Edge.due("state(" + out + ")", x.state(out), due[out]);
        }
        x.call(0);
        x.call(0);
        Edge.due("whoever is OUT", x.state(0), 100);
        EnginesOut moving = Checks.on(LINE);
        moving.post(0, 2);
        Edge.due("as if it were there", moving.state(2), 70);
        EnginesOut six = Checks.on(SIX);
        for (int out = 0; out < 64; out++) {
            Edge.due("state(" + out + ")", six.state(out), 63 - out);
        }

        Edge.says(31, "the ROW: DOUBLE.");
        x.state(0);
        Edge.row("NODE 1", x, 20);
        x.state(1);
        Edge.row("none", x, 0);
        EnginesOut two = Checks.on("w0=7;s0;e0,0,0");
        two.state(4);
        Edge.row("two at one STATION", two, 7);
        two.state(5);
        Edge.row("one", two, 0);

        Edge.says(31, "NONE: bits of none such.");
        for (int out : new int[] {4, 5, 7, 64, -1, LEAST, MOST, 1 << 30}) {
            Edge.due("state(" + out + ")", x.state(out), -1);
        }
        Edge.row("the ROW stays", x, 0);
        Edge.due("a seventh", six.state(64), -1);
        Edge.due("a seventh with others", six.state(127), -1);
        Edge.due("none of none", new EnginesOut().state(0), 0);
        Edge.due("one of none", new EnginesOut().state(1), -1);
    }

    private static void worst() {
        Edge.says(32, "Of all STATES (sets of ENGINES out) of k ENGINES that one with the least COVER, of equal ones the least bits:"
            + " its COVER;");
        EnginesOut x = Checks.on("r0-1=5;w0=10;w1=10;w2=7;w3=7;s0,2,3;e2,1,0,1");
        int[] due = {34, 14, 7, 7, 0};
        for (int k = 0; k < due.length; k++) {
            Edge.due("worst(" + k + ")", x.worst(k), due[k]);
        }
        x.call(0);
        Edge.due("whoever is OUT", x.worst(0), 34);
        Edge.due("no ENGINES", new EnginesOut().worst(0), 0);
        EnginesOut six = Checks.on(SIX);
        int[] left = {63, 31, 15, 7, 3, 1, 0};
        for (int k = 0; k <= 6; k++) {
            Edge.due("worst(" + k + ") of six", six.worst(k), left[k]);
        }

        Edge.says(32, "the ROW: it, how many STATES of k have that COVER.");
        long[][] rows = {{0, 1}, {4, 1}, {5, 1}, {7, 3}, {15, 1}};
        for (int k = 0; k < rows.length; k++) {
            x.worst(k);
            Edge.row("worst(" + k + ")", x, rows[k]);
        }
        EnginesOut like = Checks.on("w0=1;s0;e0,0,0,0,0,0");
        long[][] likes = {{0, 1}, {1, 6}, {3, 15}, {7, 20}, {15, 15}, {31, 6}, {63, 1}};
        for (int k = 0; k < likes.length; k++) {
            like.worst(k);
            Edge.row("worst(" + k + ") of like ones", like, likes[k]);
        }
        EnginesOut none = new EnginesOut();
        none.worst(0);
        Edge.row("no ENGINES", none, 0, 1);

        Edge.says(32, "NONE: k is not 0 .. how many ENGINES there are.");
        for (int k : new int[] {5, 6, 7, -1, LEAST, MOST}) {
            Edge.due("worst(" + k + ")", x.worst(k), -1);
        }
        Edge.row("the ROW stays", x, 15, 1);
        Edge.due("7 of six", six.worst(7), -1);
        Edge.due("1 of none", none.worst(1), -1);
    }

    private static void states() {
        Edge.says(33, "In how many STATES COVER is v or more;");
        EnginesOut x = Checks.on(LINE);
        int[][] due = {{0, 4}, {1, 3}, {30, 3}, {31, 2}, {90, 2}, {91, 1}, {100, 1}, {101, 0}, {MOST, 0}};
        for (int[] d : due) {
            Edge.due("states(" + d[0] + ")", x.states(d[0]), d[1]);
        }
        EnginesOut six = Checks.on(SIX);
        for (int v = 0; v <= 64; v++) {
            Edge.due("states(" + v + ") of six", six.states(v), 64 - v);
        }
        x.call(0);
        Edge.due("whoever is OUT", x.states(1), 3);
        Edge.due("no ENGINES", new EnginesOut().states(0), 1);
        Edge.due("no ENGINES", new EnginesOut().states(1), 0);

        Edge.says(33, "the ROW: by k 0, 1, .. ENGINES out in how many.");
        x.states(30);
        Edge.row("none out, one, two", x, 1, 2, 0);
        x.states(0);
        Edge.row("all", x, 1, 2, 1);
        x.states(101);
        Edge.row("none", x, 0, 0, 0);
        six.states(0);
        Edge.row("0 to 6", six, 1, 6, 15, 20, 15, 6, 1);
        EnginesOut none = new EnginesOut();
        none.states(0);
        Edge.row("0 alone", none, 1);

        Edge.says(33, "NONE: v is below 0.");
        for (int v : new int[] {-1, -2, LEAST}) {
            Edge.due("states(" + v + ")", x.states(v), -1);
        }
        Edge.row("the ROW stays", x, 0, 0, 0);
    }

    private static void expects() {
        Edge.says(34, "EXPECTED if each READY ENGINE is out p times of 1000 (0 .. 1000):");
        EnginesOut x = Checks.on(LINE);
        Edge.due("0: never", x.expects(0), 100000);
        Edge.due("1000: always", x.expects(1000), 0);
        Edge.due("999", x.expects(999), 80 + 20);
        x.call(2);
        Edge.due("READY ones alone", x.expects(0), 30000);
        x.post(0, 1);
        Edge.due("none is READY", x.expects(0), 0);
        Edge.due("no land", new EnginesOut().expects(0), 0);

        Edge.says(34, "F of no ENGINES is 0, of one more than j: F of j and (1000 - F of j) times (1000 - p) by 1000, cut:");
        String[] engines = {"", ";e0", ";e0,0", ";e0,0,0", ";e0,0,0,0", ";e0,0,0,0,0", ";e0,0,0,0,0,0"};
        // 900 out: 100, and 90, 81, 72.9, 65.7 and so on more, each cut.
        int[] f = {0, 100, 190, 271, 343, 408, 467};
        // 333 out: 667, and 222.1, 74.03, 24.6, 8.6 (of 13 left), 3.3 (of 5).
        int[] g = {0, 667, 889, 963, 987, 995, 998};
        for (int j = 0; j < engines.length; j++) {
            Edge.due("900 out, F of " + j, Checks.on("w0=1;s0" + engines[j]).expects(900), f[j]);
            Edge.due("333 out, F of " + j, Checks.on("w0=1;s0" + engines[j]).expects(333), g[j]);
            Edge.due("0 out, F of " + j, Checks.on("w0=1;s0" + engines[j]).expects(0), j == 0 ? 0 : 1000);
            Edge.due("1000 out, F of " + j, Checks.on("w0=1;s0" + engines[j]).expects(1000), 0);
        }

        Edge.says(34, "the sum, over all NODES, of WEIGHT times F of how many READY ENGINES REACH it (thousandths).");
        EnginesOut y = Checks.on(LINE);
        Edge.due("20 by two, 80 by one", y.expects(333), 20 * 889 + 80 * 667);
        y.reach(9);
        Edge.due("60 by two", y.expects(333), 60 * 889 + 40 * 667);
        y.reach(8);
        Edge.due("REACH as it is", y.expects(333), 20 * 889 + 80 * 667);
        y.shuts(0, 1, true);
        Edge.due("ROADS as they are", y.expects(333), 100 * 667);
        Checks.land(y, "w0=3;s0;e0");
        Edge.due("the land as it is", y.expects(333), 3 * 667);
        Edge.due("most of all", Checks.on("r0-1=8;w0=99;w1=99;s0;e0").expects(1), 198 * 999);

        Edge.says(34, "NONE: another p.");
        for (int p : new int[] {-1, 1001, 1002, LEAST, MOST}) {
            Edge.due("expects(" + p + ")", x.expects(p), -1);
        }
    }

    private static void bestFor() {
        Edge.says(35, "The greatest EXPECTED of as many ENGINES as are READY at any STATIONS (two may stand at one);");
        EnginesOut x = Checks.on(LINE);
        Edge.due("both at 1: 90 x 750", x.bestFor(500), 67500);
        Edge.due("never out", x.bestFor(0), 100000);
        Edge.due("always out", x.bestFor(1000), 0);
        x.call(0);
        Edge.due("one is READY", x.bestFor(0), 90000);
        EnginesOut apart = Checks.on("w0=1;w9=9;s0,9;e0");
        Edge.due("with a way or not", apart.bestFor(500), 4500);
        EnginesOut six = Checks.on("w0=1;s0;e0,0,0,0,0,0");
        Edge.due("six at one", six.bestFor(900), 467);

        Edge.says(35, "the ROW: STATIONS of them, rising, of like ones the first row; then EXPECTED NOW.");
        EnginesOut y = Checks.on(LINE);
        y.bestFor(500);
        Edge.row("1 and 1; now 0 and 1", y, 1, 1, 55000);
        y.bestFor(0);
        Edge.row("0 1 ahead of 0 2", y, 0, 1, 100000);
        y.bestFor(1000);
        Edge.row("0 0, all like", y, 0, 0, 0);
        EnginesOut down = Checks.on("w0=1;w1=2;w2=3;s2,1,0;e2,1,0");
        down.bestFor(0);
        Edge.row("rising, whichever ENGINE", down, 0, 1, 2, 6000);
        EnginesOut eight = Checks.on("w0=9;w1=9;w2=9;w3=9;w4=9;w5=9;w6=9;w7=9;s7,6,5,4,3,2,1,0;e7,7,7,7,7,7");
        eight.bestFor(500);
        Edge.row("six of eight", eight, 0, 1, 2, 3, 4, 5, 9 * (500 + 250 + 125 + 62 + 31 + 16));
        EnginesOut last = Checks.on("w0=9;s7,6,5,4,3,2,1,0;e0,0,0,0,0,0");
        last.bestFor(500);
        Edge.row("all at the last", last, 7, 7, 7, 7, 7, 7, 0);
    }

    private static void bestForNone() {
        Edge.says(35, "NONE: another p; -2: there are no STATIONS, or none is READY.");
        EnginesOut x = Checks.on(LINE);
        x.covers(1);
        for (int p : new int[] {-1, 1001, 1002, LEAST, MOST}) {
            Edge.due("bestFor(" + p + ")", x.bestFor(p), -1);
        }
        x.call(0);
        x.covers(1);
        x.call(7);
        Edge.due("one is READY", x.bestFor(1000), 0);
        x.post(1, 0);
        Edge.due("none is READY", x.bestFor(0), -2);
        Edge.row("the ROW stays", x, 0, 0);
        Edge.due("NONE ahead of -2", x.bestFor(1001), -1);
        Edge.due("no STATIONS", new EnginesOut().bestFor(0), -2);
        Edge.due("no ENGINES", Checks.on("w0=1;s0").bestFor(1000), -2);
    }
}
