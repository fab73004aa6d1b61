/** Promises 36 to 42, sentence by sentence. */
final class EdgeMoves {
    private static final int LEAST = Integer.MIN_VALUE;
    private static final int MOST = Integer.MAX_VALUE;
    private static final String LINE = "r0-1=5;r1-2=4;r2-3=6;w0=10;w1=20;w2=30;w3=40;s0,2,3;e0,1";
    /** From 0 it is 9 to each of 1 .. 6, and a STATION reaches its own NODE alone. */
    private static final String STAR = "r0-1=9;r0-2=9;r0-3=9;r0-4=9;r0-5=9;r0-6=9;w0=1;w1=2;w2=3;w3=4;w4=5;w5=6;w6=7;"
        + "s0,1,2,3,4,5,6;e0,0,0,0,0,0";

    private EdgeMoves() {
    }

    static void run() {
        regret();
        moves();
        up();
        upTold();
        post();
        postRefused();
        swap();
        swapRefused();
        left();
        leftTold();
        needs();
    }

    private static void regret() {
        Edge.says(36, "REGRET; the ROW: COVER NOW, that greatest one.");
        EnginesOut x = Checks.on(LINE);
        Edge.due("none", x.regret(), 0);
        Edge.row("100 of 100", x, 100, 100);
        x.call(2);
        Edge.due("60", x.regret(), 60);
        Edge.row("30 of 90", x, 30, 90);
        x.call(0);
        Edge.due("none is READY", x.regret(), 0);
        Edge.row("0 of 0", x, 0, 0);
        EnginesOut many = Checks.on("w0=1;w5=9;s0,5;e0,0,0");
        Edge.due("more ENGINES than STATIONS", many.regret(), 9);
        Edge.row("1 of 10", many, 1, 10);
        EnginesOut none = new EnginesOut();
        Edge.due("no land", none.regret(), 0);
        Edge.row("0 of 0", none, 0, 0);
    }

    private static void moves() {
        Edge.says(37, "MOVES of n (0 .. 6), asked alone: COVER then;");
        EnginesOut x = Checks.on(STAR);
        int[] due = {1, 8, 14, 19, 23, 26, 27};
        for (int n = 0; n <= 6; n++) {
            Edge.due("moves(" + n + ")", x.moves(n), due[n]);
        }
        Edge.due("asked alone", State.butRow(x), State.butRow(Checks.on(STAR)));
        EnginesOut limited = Checks.on(STAR);
        limited.limit(0);
        Edge.due("whatever LIMIT is", limited.moves(6), 27);
        Edge.due("no land", new EnginesOut().moves(6), 0);

        Edge.says(37, "the ROW: MINUTES together, then ENGINE and new POST of each that moves, by ENGINES.");
        EnginesOut y = Checks.on(STAR);
        y.moves(0);
        Edge.row("none", y, 0);
        y.moves(1);
        Edge.row("one", y, 9, 5, 6);
        y.moves(5);
        Edge.row("five", y, 45, 1, 2, 2, 3, 3, 4, 4, 5, 5, 6);
        // All six: the lightest two of 0 .. 6 are 1 and 2, and 1 is left where all stand.
        y.moves(6);
        Edge.row("six", y, 54, 0, 1, 1, 2, 2, 3, 3, 4, 4, 5, 5, 6);
        movesOfSixAtEight();
        y.call(0);
        y.moves(2);
        Edge.row("those READY are 1 .. 5", y, 18, 4, 5, 5, 6);
        EnginesOut none = new EnginesOut();
        none.moves(3);
        Edge.row("no ENGINES", none, 0);

        Edge.says(37, "NONE: another n.");
        for (int n : new int[] {-1, 7, 8, LEAST, MOST}) {
            Edge.due("moves(" + n + ")", y.moves(n), -1);
        }
        Edge.row("the ROW stays", y, 18, 4, 5, 5, 6);
    }

    /** STATION 0 has no way, all stand at the last. */
    private static void movesOfSixAtEight() {
        EnginesOut x = Checks.on("r0-1=9;r0-2=9;r0-3=9;r0-4=9;r0-5=9;r0-6=9;w1=2;w2=3;w3=4;w4=5;w5=6;w6=7;"
            + "s9,6,5,4,3,2,1,0;e7,7,7,7,7,7");
        for (int n = 0; n <= 6; n++) {
            long[] row = new long[1 + 2 * n];
            row[0] = 9 * n;
            for (int e = 0; e < n; e++) {
                row[1 + 2 * e] = e;
                row[2 + 2 * e] = e + 1;
            }
            x.moves(n);
            Edge.row("six at eight, " + n, x, row);
        }
    }

    private static void up() {
        Edge.says(38, "MOVES of n (0 .. 6), but no more than LIMIT lets, are done: how many ENGINES move;");
        EnginesOut x = Checks.on(STAR);
        Edge.due("none", x.up(0), 0);
        Edge.due("none moved", x.count(10), 0);
        Edge.due("LIMIT lets six", x.up(6), 6);
        Edge.due("all MOVING", x.count(4), 63);
        Edge.due("six moved", x.count(10), 6);
        for (int e = 0; e < 6; e++) {
            Edge.due("POST of " + e, x.engine(e, 0), e + 1);
            Edge.due("READY in", x.engine(e, 2), 9);
        }
        EnginesOut y = Checks.on(STAR);
        y.limit(2);
        Edge.due("LIMIT lets two", y.up(6), 2);
        Edge.due("the two of MOVES of 2", y.count(4), 48);
        Edge.due("POST", y.engine(4, 0), 5);
        Edge.due("POST", y.engine(5, 0), 6);
        Edge.due("LIMIT lets none", y.up(6), 0);
        y.limit(3);
        Edge.due("LIMIT lets one more", y.up(6), 1);
        y.limit(1);
        Edge.due("more have moved than LIMIT lets", y.up(6), 0);
        y.limit(0);
        Edge.due("LIMIT is 0", y.up(6), 0);
        y.limit(3);
        y.pass(59);
        Edge.due("59 later", y.up(6), 0);
        y.pass(1);
        Edge.due("60 later LIMIT lets three", y.up(6), 3);
        EnginesOut few = Checks.on(STAR);
        Edge.due("n is fewer than LIMIT lets", few.up(1), 1);
        Edge.due("none need move", Checks.on(LINE).up(6), 0);
        Edge.due("no land", new EnginesOut().up(6), 0);
    }

    private static void upTold() {
        Edge.says(38, "the ROW: COVER of MOVES, COVER NOW of those that are READY still.");
        EnginesOut x = Checks.on(STAR);
        x.up(0);
        Edge.row("none moves", x, 1, 1);
        x.up(2);
        Edge.row("four stay at 0", x, 14, 1);
        x.up(6);
        Edge.row("the four READY ones move, and count alone", x, 22, 0);
        x.up(6);
        Edge.row("none is READY", x, 0, 0);
        EnginesOut y = Checks.on(STAR);
        y.limit(1);
        y.up(6);
        Edge.row("COVER of MOVES that LIMIT lets", y, 8, 1);
        y.up(6);
        Edge.row("LIMIT lets none", y, 1, 1);

        Edge.says(38, "NONE: another n.");
        for (int n : new int[] {-1, 7, 8, LEAST, MOST}) {
            Edge.due("up(" + n + ")", y.up(n), -1);
        }
        Edge.row("the ROW stays", y, 1, 1);
        Edge.due("none moved", y.count(10), 1);
    }

    private static void post() {
        Edge.says(39, "ENGINE e gets a new POST by hand: MINUTES that it takes (it is MOVING if that is above 0).");
        EnginesOut x = Checks.on("r0-1=9;r1-2=1;s0,1,2,5;e0,1,2");
        Edge.due("9", x.post(0, 1), 9);
        Edge.due("MOVING", x.engine(0, 1), 1);
        Edge.due("POST", x.engine(0, 0), 1);
        Edge.due("in 9", x.engine(0, 2), 9);
        Edge.due("1, as the least there can be", x.post(2, 1), 1);
        Edge.due("MOVING", x.engine(2, 1), 1);
        Edge.due("in 1", x.pass(1), 1);
        Edge.due("several may stand at one", x.post(1, 2), 1);
        Edge.due("three moved", x.count(10), 3);
        Edge.due("three of LIMIT", x.left(), 3);
        Edge.due("no such ENGINE", x.post(3, 0), -1);
        Edge.due("no such ENGINE", x.post(-1, 0), -1);
        Edge.due("no such STATION", x.post(2, 4), -1);
        Edge.due("no such STATION", x.post(2, -1), -1);
    }

    private static void postRefused() {
        Edge.says(39, "-2: it is not READY;");
        EnginesOut x = Checks.on("r0-1=9;r1-2=1;s0,1,2,5;e0,1,2");
        x.post(0, 1);
        x.call(2);
        Edge.due("MOVING", x.post(0, 2), -2);
        Edge.due("MOVING, to where it goes", x.post(0, 1), -2);
        Edge.due("MOVING, and there is no way", x.post(0, 3), -2);
        Edge.due("OUT", x.post(2, 1), -2);
        x.pass(8);
        Edge.due("MOVING for one MINUTE more", x.post(0, 2), -2);
        x.pass(1);
        Edge.due("READY", x.post(0, 2), 1);

        Edge.says(39, "-3: there is no way, or it is its POST;");
        Edge.due("its POST", x.post(1, 1), -3);
        Edge.due("no way", x.post(1, 3), -3);
        x.shuts(1, 2, true);
        Edge.due("no way by OPEN ROADS", x.post(1, 2), -3);
        Edge.due("one is OPEN", x.post(1, 0), 9);

        Edge.says(39, "-4: LIMIT does not let it.");
        EnginesOut y = Checks.on("r0-1=9;r1-2=1;s0,1,2,5;e0,1,2");
        y.limit(0);
        Edge.due("LIMIT is 0", y.post(0, 1), -4);
        y.limit(1);
        Edge.due("LIMIT is 1", y.post(0, 1), 9);
        Edge.due("a second", y.post(1, 0), -4);
        Edge.due("a second, to where it is", y.post(1, 1), -3);
        Edge.due("POST stays", y.engine(1, 0), 1);
        Edge.due("READY still", y.engine(1, 1), 0);
        Edge.due("one moved", y.count(10), 1);
        y.pass(59);
        Edge.due("59 later", y.post(1, 0), -4);
        y.pass(1);
        Edge.due("60 later", y.post(1, 0), 9);
    }

    private static void swap() {
        Edge.says(40, "Two ENGINES change POSTS by hand: the MINUTES that it takes (both move, and count so).");
        EnginesOut x = Checks.on("r0-1=9;r1-2=7;s0,1,2,5;e0,1,2");
        Edge.due("9 + 7, once", x.swap(2, 0), 16);
        Edge.due("POST", x.engine(0, 0), 2);
        Edge.due("POST", x.engine(2, 0), 0);
        Edge.due("both MOVING", x.count(4), 5);
        Edge.due("in 16", x.engine(0, 2), 16);
        Edge.due("in 16", x.engine(2, 2), 16);
        Edge.due("two moved", x.count(10), 2);
        Edge.due("two of LIMIT", x.left(), 4);
        Edge.due("both there", x.pass(16), 2);

        Edge.says(40, "NONE: one and the same, too;");
        for (int e = 0; e < 3; e++) {
            Edge.due("swap(" + e + ", " + e + ")", x.swap(e, e), -1);
        }
        for (int e : new int[] {-1, 3, 6, LEAST, MOST}) {
            Edge.due("swap(" + e + ", 0)", x.swap(e, 0), -1);
            Edge.due("swap(0, " + e + ")", x.swap(0, e), -1);
            Edge.due("swap(" + e + ", " + e + ")", x.swap(e, e), -1);
        }
        Edge.due("two moved still", x.count(10), 2);
    }

    private static void swapRefused() {
        Edge.says(40, "-2: one is not READY;");
        EnginesOut x = Checks.on("r0-1=9;r1-2=7;s0,1,2,5;e0,1,2,0,3");
        x.call(0);
        Edge.due("the first is OUT", x.swap(0, 1), -2);
        Edge.due("the second is OUT", x.swap(1, 0), -2);
        Edge.due("OUT, and one POST is both", x.swap(0, 3), -2);
        x.post(1, 2);
        Edge.due("MOVING", x.swap(1, 3), -2);
        Edge.due("both are not READY", x.swap(1, 0), -2);
        Edge.due("OUT, and no way", x.swap(4, 0), -2);

        Edge.says(40, "-3: there is no way, or one POST is both;");
        EnginesOut y = Checks.on("r0-1=9;r1-2=7;s0,1,2,5;e0,1,2,0,3");
        Edge.due("one POST is both", y.swap(0, 3), -3);
        Edge.due("no way", y.swap(0, 4), -3);
        Edge.due("no way", y.swap(4, 0), -3);
        y.shuts(0, 1, true);
        Edge.due("no way by OPEN ROADS", y.swap(0, 1), -3);
        Edge.due("none moved", y.count(10), 0);

        Edge.says(40, "-4: LIMIT does not let two.");
        EnginesOut z = Checks.on("r0-1=9;r1-2=7;s0,1,2,5;e0,1,2,0,3");
        z.limit(0);
        Edge.due("none", z.swap(0, 1), -4);
        z.limit(1);
        Edge.due("one, not two", z.swap(0, 1), -4);
        Edge.due("one POST is both", z.swap(0, 3), -3);
        Edge.due("POST stays", z.engine(0, 0), 0);
        Edge.due("none moved", z.count(10), 0);
        z.limit(2);
        Edge.due("two", z.swap(0, 1), 9);
        z.limit(3);
        Edge.due("one more, not two", z.swap(2, 3), -4);
        z.limit(4);
        Edge.due("two more", z.swap(2, 3), 16);
        z.limit(5);
        z.pass(59);
        Edge.due("59 later", z.swap(0, 1), -4);
        z.pass(1);
        Edge.due("60 later", z.swap(0, 1), 9);
    }

    private static void left() {
        Edge.says(41, "How many may still move by LIMIT in this MINUTE (0 at least);");
        EnginesOut x = Checks.on(STAR);
        Edge.due("six", x.left(), 6);
        x.up(3);
        Edge.due("three", x.left(), 3);
        x.limit(3);
        Edge.due("none", x.left(), 0);
        x.limit(2);
        Edge.due("0 at least", x.left(), 0);
        x.limit(0);
        Edge.due("0 at least", x.left(), 0);
        x.limit(20);
        Edge.due("17", x.left(), 17);
        x.pass(59);
        Edge.due("59 later", x.left(), 17);
        x.pass(1);
        Edge.due("60 later", x.left(), 20);
        Edge.due("no land", new EnginesOut().left(), 6);
        EnginesOut many = Checks.on("r0-1=1;s0,1;e0");
        many.limit(20);
        int may = 20;
        for (int minute = 0; minute < 150; minute++) {
            // Those of 60 MINUTES ago are free again: the first 20 MINUTES of each hour have moves.
            boolean can = minute % 60 < 20;
            Edge.due("at " + minute, many.left(), can ? minute < 60 ? 20 - minute : 1 : 0);
            if (can) {
                many.post(0, 1 - many.engine(0, 0));
            }
            many.pass(1);
        }
        Edge.due("20 an hour", many.count(10), 60);
    }

    private static void leftTold() {
        Edge.says(41, "the ROW: in how many MINUTES one more may, if none moves till then (0: now; NONE: LIMIT is 0).");
        EnginesOut x = Checks.on("r0-1=1;s0,1;e0,0,0");
        x.left();
        Edge.row("now", x, 0);
        x.limit(0);
        x.left();
        Edge.row("LIMIT is 0", x, -1);
        x.limit(2);
        x.post(0, 1);
        x.left();
        Edge.row("one more may now", x, 0);
        x.pass(10);
        x.post(1, 1);
        x.left();
        Edge.row("when the first is 60 MINUTES ago", x, 50);
        x.limit(1);
        x.left();
        Edge.row("when both are", x, 60);
        x.limit(0);
        x.left();
        Edge.row("never", x, -1);
        x.limit(2);
        x.pass(49);
        x.left();
        Edge.row("in one", x, 1);
        x.pass(1);
        x.left();
        Edge.row("now", x, 0);
        x.limit(1);
        x.left();
        Edge.row("in ten", x, 10);
        x.pass(10);
        x.left();
        Edge.row("now", x, 0);
        EnginesOut same = Checks.on("r0-1=1;s0,1;e0,0,0");
        same.post(0, 1);
        same.post(1, 1);
        same.post(2, 1);
        for (int limit = 1; limit <= 3; limit++) {
            same.limit(limit);
            same.left();
            Edge.row("three in one MINUTE, LIMIT is " + limit, same, 60);
        }
    }

    private static void needs() {
        Edge.says(42, "The least n (0 .. 6) so that MOVES of n leave no REGRET;");
        EnginesOut x = Checks.on(LINE);
        Edge.due("none", x.needs(), 0);
        x.call(2);
        Edge.due("one", x.needs(), 1);
        x.call(0);
        Edge.due("none is READY", x.needs(), 0);
        Edge.due("six", Checks.on(STAR).needs(), 6);
        EnginesOut two = Checks.on("r0-1=9;r0-2=9;w1=5;w2=5;s0,1,2;e0,0,0");
        Edge.due("two", two.needs(), 2);
        two.limit(0);
        Edge.due("whatever LIMIT is", two.needs(), 2);
        Edge.due("no land", new EnginesOut().needs(), 0);

        Edge.says(42, "-2: none does.");
        EnginesOut away = Checks.on("w0=1;w5=9;s0,5;e0");
        Edge.due("no way", away.needs(), -2);
        EnginesOut shut = Checks.on(STAR);
        shut.shuts(0, 6, true);
        Edge.due("six, but for the heaviest", shut.needs(), -2);
        shut.shuts(0, 6, false);
        Edge.due("OPEN again", shut.needs(), 6);
        Edge.due("the lighter is where none has a way, but there are two more", Checks.on("w0=1;w5=9;s0,5;e1").needs(), 0);
    }
}
