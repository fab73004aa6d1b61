/** Promises 14 to 19, sentence by sentence. */
final class EdgeCalls {
    private static final int LEAST = Integer.MIN_VALUE;
    private static final int MOST = Integer.MAX_VALUE;

    private EdgeCalls() {
    }

    static void run() {
        call();
        pair();
        pairLikeOnes();
        worstPair();
        pass();
        seed();
        storms();
        stormsAtNodes();
        stormsTold();
    }

    private static void call() {
        Edge.says(14, "A CALL at a NODE: the ENGINE that goes;");
        EnginesOut x = Checks.on("r0-1=8;r1-2=9;s0,2;e1,0,0");
        Edge.due("the nearest, of like ones the least", x.call(1), 1);
        Edge.due("the other", x.call(1), 2);
        Edge.due("the one left", x.call(1), 0);
        Edge.due("three CALLS", x.count(6), 3);
        Edge.due("all OUT", x.count(3), 7);
        Edge.due("8 + 8 + 9", x.count(9), 25);
        Edge.due("no such NODE", x.call(12), -1);
        Edge.due("no such NODE", x.call(-1), -1);
        Edge.due("refused ones do not count", x.count(6), 3);

        Edge.says(14, "the ROW: FAR, 1 if it is LATE, else 0.");
        EnginesOut y = Checks.on("r0-1=8;r0-2=9;s0;e0,0,0,0");
        y.call(1);
        Edge.row("REACH itself", y, 8, 0);
        y.call(2);
        Edge.row("one more than REACH", y, 9, 1);
        y.call(0);
        Edge.row("at its POST", y, 0, 0);
        y.reach(7);
        y.call(1);
        Edge.row("REACH is 7", y, 8, 1);
        Edge.due("LATE", y.count(7), 2);

        Edge.says(14, "-2: it is LOST (it counts among CALLS, too).");
        Edge.due("none is READY", y.call(0), -2);
        Edge.row("the ROW stays", y, 8, 1);
        Edge.due("CALLS", y.count(6), 5);
        Edge.due("LATE", y.count(7), 2);
        Edge.due("LOST", y.count(8), 1);
        Edge.due("MINUTES", y.count(9), 25);
        y.pass(60);
        Edge.due("no way", y.call(5), -2);
        Edge.due("CALLS", y.count(6), 6);
        Edge.due("LOST", y.count(8), 2);
        Edge.due("all stay READY", y.count(2), 15);
        EnginesOut none = new EnginesOut();
        Edge.due("no ENGINES", none.call(0), -2);
        Edge.due("CALLS", none.count(6), 1);
        Edge.row("no ROW", none);
    }

    private static void pair() {
        Edge.says(15, "Two CALLS at once, at NODES a and b (one may be both), asked alone:");
        EnginesOut x = Checks.on("r0-1=5;r1-2=4;s0,2;e0,1");
        Edge.due("one is both", x.pair(1, 1), 9);
        Edge.due("asked alone", State.butRow(x), State.butRow(Checks.on("r0-1=5;r1-2=4;s0,2;e0,1")));
        x = Checks.on("r0-1=5;r1-2=4;s0,2;e0,1");
        Edge.due("no such NODE", x.pair(12, 0), -1);
        Edge.due("no such NODE", x.pair(0, 12), -1);
        Edge.due("no such NODE", x.pair(-1, -1), -1);

        Edge.says(15, "of READY ENGINES (unlike ones) with ways the two with the fewest MINUTES (FAR, both together),");
        Edge.due("1 is nearest to both, and can't go to both", x.pair(2, 2), 9);
        Edge.row("0 goes 9", x, 0, 1, 9);
        Edge.due("0 + 5", x.pair(1, 2), 5);
        Edge.row("0 to 1, 1 to 2", x, 0, 1, 5);
        EnginesOut three = Checks.on("r0-1=3;r1-2=3;r2-3=20;s0,2,3,9;e3,0,1,2,0");
        Edge.due("READY ones with ways", three.pair(1, 9), 3);
        Edge.row("0 to 9", three, 1, 0, 3);
        three.call(0);
        three.call(0);
        Edge.due("those OUT can't go", three.pair(0, 3), 6);
        Edge.row("2 to 0, 3 to 3", three, 2, 3, 6);

        Edge.says(15, "those MINUTES; the ROW: ENGINE to a, to b, the longer way.");
        Edge.due("turned", three.pair(3, 0), 6);
        Edge.row("3 to 3, 2 to 0", three, 3, 2, 6);
        Edge.due("3 and 20", three.pair(1, 2), 23);
        Edge.row("the longer is to 2", three, 2, 3, 20);
        Edge.due("20 and 3", three.pair(2, 1), 23);
        Edge.row("the longer is to 2", three, 3, 2, 20);

        Edge.says(15, "-2: there are no such two.");
        EnginesOut two = Checks.on("r0-1=5;s0,5;e0,0");
        Edge.due("to 0 and 1", two.pair(0, 1), 5);
        Edge.due("no way to b", two.pair(0, 5), -2);
        Edge.due("no way to a", two.pair(5, 0), -2);
        Edge.row("the ROW stays", two, 0, 1, 5);
        two.call(0);
        Edge.due("one is READY", two.pair(0, 1), -2);
        two.call(0);
        Edge.due("none is READY", two.pair(0, 1), -2);
        Edge.due("no ENGINES", new EnginesOut().pair(0, 0), -2);
        Edge.due("one has a way to a alone, none to b", Checks.on("s0,5;e0,0").pair(0, 5), -2);
    }

    private static void pairLikeOnes() {
        Edge.says(15, "of these the fewest of the longer way,");
        EnginesOut x = Checks.on("r1-2=4;r2-3=4;s1,2;e0,1");
        Edge.due("4 + 4, or 8 + 0", x.pair(2, 3), 8);
        Edge.row("4 + 4", x, 0, 1, 4);
        Edge.due("turned", x.pair(3, 2), 8);
        Edge.row("4 + 4", x, 1, 0, 4);
        EnginesOut y = Checks.on("r1-2=4;r2-3=4;s2,1;e0,1");
        Edge.due("whatever ENGINE it is", y.pair(2, 3), 8);
        Edge.row("4 + 4", y, 1, 0, 4);

        Edge.says(15, "then the least ENGINE to a, then to b:");
        EnginesOut like = Checks.on("r0-1=4;s0,1;e1,0,1,0,1");
        Edge.due("all like", like.pair(0, 0), 0);
        Edge.row("1 and 3", like, 1, 3, 0);
        Edge.due("all like", like.pair(1, 1), 0);
        Edge.row("0 and 2", like, 0, 2, 0);
        Edge.due("all like", like.pair(1, 0), 0);
        Edge.row("0 and 1", like, 0, 1, 0);
        EnginesOut middle = Checks.on("r0-1=4;r1-2=4;s0,2;e0,1,0");
        Edge.due("all are 4 off", middle.pair(1, 1), 8);
        Edge.row("0 to a, 1 to b", middle, 0, 1, 4);
    }

    private static void worstPair() {
        Edge.says(16, "Of all two NODES (a not above b) with WEIGHTS above 0 that with the greatest pair(), of equal ones the first a, then b;");
        EnginesOut x = Checks.on("r0-1=5;r1-2=4;r2-3=6;w0=10;w1=20;w2=30;w3=40;s0,2,3;e0,1");
        Edge.due("both at 3, 15 + 6", x.worstPair(), 21);
        Edge.row("one NODE is both", x, 3, 3);
        EnginesOut light = Checks.on("r0-1=5;r1-2=4;r2-3=6;w0=10;w1=20;w2=30;w3=0;s0,2,3;e0,1");
        Edge.due("3 has no WEIGHT: all others are 9 or less", light.worstPair(), 9);
        Edge.row("the first a, then b, of 9", light, 0, 0);
        EnginesOut pairs = Checks.on("r2-5=7;w2=1;w5=1;s2,5;e0,1");
        Edge.due("7 for 2, 2 and for 5, 5", pairs.worstPair(), 7);
        Edge.row("the first", pairs, 2, 2);
        EnginesOut second = Checks.on("r0-1=9;r2-3=9;r0-4=1;r2-4=1;w1=1;w3=1;s0,2;e0,1,0,1");
        Edge.due("1, 1 and 1, 3 and 3, 3 are 18", second.worstPair(), 18);
        Edge.row("the first a, then b", second, 1, 1);

        Edge.says(16, "one that is -2 is greater than all: pair();");
        EnginesOut none = Checks.on("r0-1=60;r1-2=60;w0=1;w1=1;w2=1;w4=1;w5=1;s0,2;e0,1");
        Edge.due("4 has no way", none.worstPair(), -2);
        Edge.row("ahead of those of 120", none, 0, 4);
        EnginesOut late = Checks.on("r0-1=60;r1-2=60;r2-3=60;w0=1;w11=1;s0,3,11;e0,0,1");
        Edge.due("11 has no way", late.worstPair(), -2);
        Edge.row("behind 0, 0 with 0", late, 0, 11);

        Edge.says(16, "the ROW: a, b (with -2, too).");
        EnginesOut one = Checks.on("w7=1;s7;e0");
        one.cover();
        Edge.due("one ENGINE is no two", one.worstPair(), -2);
        Edge.row("a, b", one, 7, 7);
        EnginesOut two = Checks.on("w7=1;w8=1;s7,8;e0,1");
        Edge.due("7 twice: 1 has no way", two.worstPair(), -2);
        Edge.row("a, b", two, 7, 7);
        EnginesOut good = Checks.on("r7-8=3;w7=1;w8=1;s7,8;e0,1,1");
        Edge.due("3", good.worstPair(), 3);
        Edge.row("a, b", good, 7, 7);

        Edge.says(16, "-3: there is no NODE with a WEIGHT.");
        EnginesOut weightless = Checks.on("r0-1=4;w2=0;s0,1;e0,1");
        weightless.reached(0);
        Edge.due("all are 0", weightless.worstPair(), -3);
        Edge.row("the ROW stays", weightless, 0);
        Edge.due("no land", new EnginesOut().worstPair(), -3);
        EnginesOut last = Checks.on("w11=1");
        Edge.due("one with WEIGHT, no ENGINES", last.worstPair(), -2);
        Edge.row("a, b", last, 11, 11);
    }

    private static void pass() {
        Edge.says(17, "n MINUTES (1 .. 600) pass, one by one:");
        EnginesOut x = Checks.on("r0-1=4;s0,1;e0,0,1");
        Edge.due("1", x.pass(1), 0);
        Edge.due("MINUTE", x.count(5), 1);
        Edge.due("600", x.pass(600), 0);
        Edge.due("MINUTE", x.count(5), 601);
        Edge.due("no DRAW", x.count(12), 1);
        Edge.due("no CALL", x.count(6), 0);

        Edge.says(17, "MINUTE is one more, who is READY by then is; how many ENGINES became READY.");
        x.call(0);
        x.pass(10);
        x.call(1);
        x.post(1, 1);
        Edge.due("none", x.pass(3), 0);
        Edge.due("the one that moves", x.pass(1), 1);
        Edge.due("none", x.pass(15), 0);
        Edge.due("the first CALL's", x.pass(1), 1);
        Edge.due("READY", x.count(2), 3);
        Edge.due("the second's, 2 x 0 + 30", x.pass(600), 1);
        Edge.due("READY", x.count(2), 7);
        x.call(0);
        x.call(1);
        x.call(0);
        Edge.due("three in 600", x.pass(600), 3);
        Edge.due("none again", x.pass(600), 0);

        Edge.says(17, "NONE: another n.");
        int minute = x.count(5);
        x.call(0);
        for (int n : new int[] {0, -1, -600, 601, 602, LEAST, MOST}) {
            Edge.due("pass(" + n + ")", x.pass(n), -1);
        }
        Edge.due("MINUTE stays", x.count(5), minute);
        Edge.due("OUT still", x.engine(0, 2), 30);
    }

    private static void seed() {
        Edge.says(18, "R becomes seed: what it was.");
        EnginesOut x = new EnginesOut();
        int[] seeds = {-1, 0, LEAST, MOST, 1, 65536};
        int was = 1;
        for (int seed : seeds) {
            Edge.due("seed(" + seed + ")", x.seed(seed), was);
            Edge.due("R", x.count(12), seed);
            was = seed;
        }
    }

    private static void storms() {
        Edge.says(19, "n MINUTES (1 .. 600) pass likewise, each of them with a DRAW of 1000 behind it:");
        EnginesOut x = Checks.on("w0=1;s0;e0");
        Edge.due("1", x.storms(1, 0), 0);
        Edge.due("MINUTE", x.count(5), 1);
        Edge.due("one DRAW", x.count(12), 1103527590);
        x.seed(1);
        Edge.due("600", x.storms(600, 0), 0);
        Edge.due("MINUTE", x.count(5), 601);
        int r = 1;
        for (int i = 0; i < 600; i++) {
            r = r * 1103515245 + 12345;
        }
        Edge.due("600 DRAWS", x.count(12), r);
        x.service(1);
        x.call(0);
        Edge.due("READY in the MINUTE ahead of the DRAW", x.storms(1, 1000), 1);
        Edge.row("and goes", x, 0, 0);
        x.service(2);
        x.pass(1);
        x.call(0);
        Edge.due("not READY yet", x.storms(1, 1000), 1);
        Edge.row("LOST", x, 0, 1);

        Edge.says(19, "if it is less than c (0 .. 1000), there is a CALL:");
        for (int seed = 1; seed < 40; seed++) {
            int lot = ((seed * 1103515245 + 12345) >>> 16) % 1000;
            for (int c : new int[] {0, lot, lot + 1, 1000}) {
                EnginesOut y = Checks.on("w0=1;s0;e0");
                y.seed(seed);
                Edge.due(lot + " of " + c, y.storms(1, c), lot < c ? 1 : 0);
                Edge.due("CALLS", y.count(6), lot < c ? 1 : 0);
            }
        }
        EnginesOut always = Checks.on("w0=1;s0;e0");
        Edge.due("1000: always", always.storms(600, 1000), 600);
        Edge.due("0: never", always.storms(600, 0), 0);

        Edge.says(19, "NONE: others.");
        EnginesOut z = State.rich();
        int[][] wrong = {{0, 0}, {-1, 0}, {601, 0}, {LEAST, 0}, {MOST, 0}, {1, -1}, {1, 1001}, {600, LEAST}, {600, MOST}, {0, 1001}};
        for (int[] w : wrong) {
            Edge.due("storms(" + w[0] + ", " + w[1] + ")", z.storms(w[0], w[1]), -1);
        }
        Edge.due("nothing is otherwise", State.of(z), State.of(State.rich()));
    }

    private static void stormsAtNodes() {
        Edge.says(19, "at the NODE at which a DRAW of all WEIGHTS lies (NODE 0 has the first WEIGHT numbers, NODE 1 the next ones, ..;");
        // Lots 0, 1: NODE 0; 2: NODE 1; none: NODE 2; 3, 4, 5: NODE 11.
        int[] engines = {0, 0, 1, 2, 2, 2};
        int[] often = new int[6];
        for (int seed = 0; seed < 120; seed++) {
            int r = (seed * 1103515245 + 12345) * 1103515245 + 12345;
            int lot = (r >>> 16) % 6;
            often[lot]++;
            EnginesOut x = Checks.on("w0=2;w1=1;w2=0;w11=3;s0,1,11,2;e0,1,2,3");
            x.seed(seed);
            Edge.due("a CALL", x.storms(1, 1000), 1);
            Edge.due("OUT by lot " + lot, x.count(3), 1 << engines[lot]);
            Edge.due("R behind two DRAWS", x.count(12), r);
        }
        for (int lot = 0; lot < 6; lot++) {
            Edge.due("lot " + lot + " was drawn", often[lot] > 0, true);
        }

        Edge.says(19, "no such DRAW, and no CALL, if all are 0):");
        EnginesOut none = Checks.on("w0=0;s0;e0");
        Edge.due("no CALL", none.storms(2, 1000), 0);
        int r = (1103515245 + 12345) * 1103515245 + 12345;
        Edge.due("two DRAWS", none.count(12), r);
        Edge.due("no CALLS", none.count(6), 0);
        Edge.due("READY", none.count(2), 1);
        Edge.row("none LATE, none LOST", none, 0, 0);
        Edge.due("no land", new EnginesOut().storms(600, 1000), 0);
    }

    private static void stormsTold() {
        Edge.says(19, "how many CALLS there were; the ROW: LATE, LOST ones of them.");
        EnginesOut x = Checks.on("r0-1=9;w1=5;s0;e0,0");
        x.call(1);
        x.call(5);
        Edge.due("three", x.storms(3, 1000), 3);
        Edge.row("one LATE, two LOST, of these three", x, 1, 2);
        Edge.due("CALLS in all", x.count(6), 5);
        Edge.due("LATE in all", x.count(7), 2);
        Edge.due("LOST in all", x.count(8), 3);
        Edge.due("MINUTES in all", x.count(9), 18);
        Edge.due("none", x.storms(1, 0), 0);
        Edge.row("none of these", x, 0, 0);
        x.reach(9);
        x.pass(100);
        Edge.due("two", x.storms(2, 1000), 2);
        Edge.row("REACH itself is not LATE", x, 0, 0);
    }
}
