/** Promises 14 to 19: calls, two at once, minutes that pass, calls that are drawn. */
public final class CallsTest {
    private static final String LAND = "r0-1=5;r1-2=4;r2-3=6;w0=10;w1=20;w2=30;w3=40;s0,2,3;e0,1";

    private static void due(String what, long got, long want) {
        Checks.due(what, got, want);
    }

    public static void main(String[] args) {
        call();
        callLost();
        pair();
        pairLikeOnes();
        worstPair();
        pass();
        seed();
        storms();
        stormsDrawn();
        Checks.close("CallsTest");
    }

    private static void call() {
        EnginesOut x = Checks.on("r0-1=4;r1-2=4;r2-3=9;s0,2;e1,0,0");
        due("14: of like ones the least", x.call(1), 0);
        Checks.rowIs("14: FAR, not LATE", x, 4, 0);
        due("14: the nearest that is READY", x.call(3), 1);
        Checks.rowIs("14: FAR, LATE", x, 17, 1);
        due("14: OUT", x.count(3), 3);
        due("14: READY", x.count(2), 4);
        due("14: 2 x 4 + 30", x.engine(0, 2), 38);
        due("14: 2 x 17 + 30", x.engine(1, 2), 64);
        x.reach(4);
        due("14: REACH itself is not LATE", x.call(1), 2);
        Checks.rowIs("14: FAR, not LATE", x, 4, 0);
        due("14: CALLS", x.count(6), 3);
        due("14: LATE", x.count(7), 1);
        due("14: LOST", x.count(8), 0);
        due("14: MINUTES", x.count(9), 25);
        int[] none = {-1, 12, Integer.MIN_VALUE, Integer.MAX_VALUE};
        for (int a : none) {
            due("14: no such NODE", x.call(a), -1);
        }
        due("14: refused ones do not count", x.count(6), 3);
        Checks.rowIs("14: the ROW stays", x, 4, 0);
        x.pass(38);
        due("14: they come back", x.count(2), 5);
        EnginesOut y = Checks.on("s5;e0");
        due("14: at its POST", y.call(5), 0);
        Checks.rowIs("14: no way to go", y, 0, 0);
        due("14: SERVICE alone", y.engine(0, 2), 30);
    }

    private static void callLost() {
        EnginesOut x = Checks.on(LAND);
        x.cover();
        due("14: no way", x.call(7), -2);
        due("14: LOST counts among CALLS", x.count(6), 1);
        due("14: LOST", x.count(8), 1);
        Checks.rowIs("14: LOST, the ROW stays", x, 20, 100);
        x.call(0);
        x.call(0);
        due("14: none is READY", x.call(0), -2);
        due("14: CALLS", x.count(6), 4);
        due("14: LATE", x.count(7), 1);
        due("14: LOST", x.count(8), 2);
        due("14: LOST ones took none", x.count(9), 9);
        EnginesOut y = new EnginesOut();
        due("14: no ENGINES", y.call(0), -2);
        Checks.rowIs("14: no ROW", y);
    }

    private static void pair() {
        EnginesOut x = Checks.on(LAND);
        due("15: 0 to 0, 1 to 3", x.pair(0, 3), 6);
        Checks.rowIs("15: ENGINES, the longer way", x, 0, 1, 6);
        due("15: turned", x.pair(3, 0), 6);
        Checks.rowIs("15: ENGINES, the longer way", x, 1, 0, 6);
        due("15: one NODE is both", x.pair(0, 0), 9);
        Checks.rowIs("15: the least to a", x, 0, 1, 9);
        due("15: asked alone", x.count(6), 0);
        due("15: all READY", x.count(2), 3);
        due("15: no way", x.pair(0, 4), -2);
        due("15: no such NODE", x.pair(12, 0), -1);
        due("15: no such NODE", x.pair(0, -1), -1);
        Checks.rowIs("15: the ROW stays", x, 0, 1, 9);
        x.call(0);
        due("15: one is READY", x.pair(0, 3), -2);
        due("15: NONE first", x.pair(0, 12), -1);
    }

    private static void pairLikeOnes() {
        // Engines at 1 and 2 of a line with 4 between: to 2 and 3 it is 4 + 4, or 0 + 8.
        EnginesOut x = Checks.on("r0-1=4;r1-2=4;r2-3=4;s1,2;e0,1");
        due("15: 4 + 4 rather than 0 + 8", x.pair(2, 3), 8);
        Checks.rowIs("15: the fewest of the longer way", x, 0, 1, 4);
        EnginesOut y = Checks.on("r0-1=4;s0;e0,0,0");
        due("15: like ones", y.pair(1, 0), 4);
        Checks.rowIs("15: the least to a, then to b", y, 0, 1, 4);
        EnginesOut z = Checks.on("r0-1=4;s1,0;e0,0,1,1");
        due("15: like ones", z.pair(0, 0), 0);
        Checks.rowIs("15: the least to a, then to b", z, 2, 3, 0);
    }

    private static void worstPair() {
        EnginesOut x = Checks.on(LAND);
        due("16: both at 0 or both at 3", x.worstPair(), 21);
        Checks.rowIs("16: a, b", x, 3, 3);
        EnginesOut y = Checks.on("r0-1=4;w0=1;w1=1;w5=0;s0,1;e0,1");
        due("16: of equal ones the first", y.worstPair(), 4);
        Checks.rowIs("16: a, b", y, 0, 0);
        EnginesOut z = Checks.on("r0-1=4;w0=1;w1=1;w5=1;w6=1;s0,1;e0,1");
        due("16: one that can't be is worst", z.worstPair(), -2);
        Checks.rowIs("16: a, b with -2, too", z, 0, 5);
        EnginesOut none = Checks.on("r0-1=4;w2=0;s0,1;e0,1");
        none.cover();
        due("16: no WEIGHT", none.worstPair(), -3);
        Checks.rowIs("16: the ROW stays with -3", none, 0, 0);
        EnginesOut one = Checks.on("w3=1;s3;e0");
        due("16: one ENGINE is no pair", one.worstPair(), -2);
        Checks.rowIs("16: a, b", one, 3, 3);
    }

    private static void pass() {
        EnginesOut x = Checks.on(LAND);
        x.call(0);
        x.call(2);
        due("17: none yet", x.pass(29), 0);
        due("17: MINUTE", x.count(5), 29);
        due("17: both", x.pass(1), 2);
        due("17: READY", x.count(2), 3);
        due("17: none again", x.pass(600), 0);
        due("17: MINUTE", x.count(5), 630);
        x.call(0);
        due("17: among many", x.pass(600), 1);
        int[] wrong = {0, -1, 601, Integer.MIN_VALUE, Integer.MAX_VALUE};
        for (int n : wrong) {
            due("17: pass(" + n + ")", x.pass(n), -1);
        }
        due("17: refused", x.count(5), 1230);
        due("17: no DRAWS", x.count(12), 1);
        Checks.rowIs("17: the ROW stays", x, 0, 0);
    }

    private static void seed() {
        EnginesOut x = new EnginesOut();
        due("18: at first 1", x.seed(-5), 1);
        due("18: R", x.count(12), -5);
        due("18: what it was", x.seed(Integer.MIN_VALUE), -5);
        due("18: what it was", x.seed(0), Integer.MIN_VALUE);
        Checks.rowIs("18: no ROW", x);
    }

    private static void storms() {
        EnginesOut x = Checks.on("w3=1;s3;e0");
        int[][] wrong = {{0, 5}, {-1, 5}, {601, 5}, {1, -1}, {1, 1001}, {Integer.MAX_VALUE, 0}, {1, Integer.MIN_VALUE}};
        for (int[] w : wrong) {
            due("19: storms(" + w[0] + ", " + w[1] + ")", x.storms(w[0], w[1]), -1);
        }
        due("19: refused", x.count(5), 0);
        due("19: refused, no DRAW", x.count(12), 1);
        Checks.rowIs("19: refused, no ROW", x);
        due("19: a CALL each MINUTE", x.storms(600, 1000), 600);
        // The engine goes at minute 1, and again whenever 30 more have passed: 20 times in 600.
        Checks.rowIs("19: none LATE, the others LOST", x, 0, 580);
        due("19: CALLS", x.count(6), 600);
        due("19: LOST", x.count(8), 580);
        due("19: MINUTE", x.count(5), 600);
        due("19: no CALL", x.storms(600, 0), 0);
        Checks.rowIs("19: none of these", x, 0, 0);
        EnginesOut none = Checks.on("s3;e0");
        due("19: no WEIGHT, no CALL", none.storms(3, 1000), 0);
        int r = 1;
        for (int i = 0; i < 3; i++) {
            r = r * 1103515245 + 12345;
        }
        due("19: no second DRAW", none.count(12), r);
        EnginesOut late = Checks.on("r3-4=9;w4=1;s3;e0,0");
        due("19: CALLS", late.storms(3, 1000), 3);
        Checks.rowIs("19: two LATE, one LOST", late, 2, 1);
        due("19: LATE", late.count(7), 2);
    }

    /** The draws said again, with longs. */
    private static void stormsDrawn() {
        int[] weights = {7, 0, 50, 99, 1, 0, 13};
        EnginesOut x = Checks.on("w0=7;w2=50;w3=99;w4=1;w6=13;s0,2,3,4,6;e0,1,2,3,4,0");
        x.service(1);
        x.seed(-77);
        long r = -77 & 0xffffffffL;
        int calls = 0;
        int lost = 0;
        int[] readyAt = new int[7];
        int ownAt = 0;
        for (int minute = 1; minute <= 300; minute++) {
            r = (r * 1103515245L + 12345) & 0xffffffffL;
            if (r / 65536 % 1000 < 700) {
                calls++;
                r = (r * 1103515245L + 12345) & 0xffffffffL;
                int lot = (int) (r / 65536 % 170);
                int node = 0;
                while (lot >= weights[node]) {
                    lot -= weights[node];
                    node++;
                }
                // Two engines stand at node 0, one at each other station.
                if (readyAt[node] <= minute) {
                    readyAt[node] = minute + 1;
                } else if (node == 0 && ownAt <= minute) {
                    ownAt = minute + 1;
                } else {
                    lost++;
                }
            }
        }
        due("19: CALLS drawn", x.storms(300, 700), calls);
        Checks.rowIs("19: drawn", x, 0, lost);
        due("19: R", x.count(12), (int) r);
        EnginesOut one = Checks.on("w0=7;w2=50;w3=99;w4=1;w6=13;s0,2,3,4,6;e0,1,2,3,4");
        one.seed(3);
        one.storms(1, 1000);
        long s = (3L * 1103515245L + 12345) & 0xffffffffL;
        s = (s * 1103515245L + 12345) & 0xffffffffL;
        int lot = (int) (s / 65536 % 170);
        int engine = lot < 7 ? 0 : lot < 57 ? 1 : lot < 156 ? 2 : lot < 157 ? 3 : 4;
        due("19: who is OUT", one.count(3), 1 << engine);
    }
}
