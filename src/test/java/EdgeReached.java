/** Promises 20 to 30, sentence by sentence. */
final class EdgeReached {
    private static final int LEAST = Integer.MIN_VALUE;
    private static final int MOST = Integer.MAX_VALUE;
    /** STATIONS 0 .. 2 reach NODES 0 1, 1 2 3, 2 3: 30, 90, 70. */
    private static final String LINE = "r0-1=5;r1-2=4;r2-3=6;w0=10;w1=20;w2=30;w3=40;s0,2,3;e0,1";
    /** STATIONS 0 .. 2 reach 21, 20, 20, the first two 31, the last two 40. */
    private static final String STAR = "r0-1=8;r0-2=8;r3-1=8;r3-4=8;r6-2=8;r6-7=8;"
        + "w0=1;w1=10;w2=10;w3=1;w4=9;w6=1;w7=9;s0,3,6;e0";
    private static final String EIGHT = "w0=1;w1=2;w2=3;w3=4;w4=5;w5=6;w6=7;w7=8;s0,1,2,3,4,5,6,7;e0,1,2,3,4,5";

    private EdgeReached() {
    }

    static void run() {
        cover();
        covers();
        share();
        best();
        nested();
        greedy();
        dearest();
        dearestRoad();
        least();
        twice();
        spread();
    }

    private static void cover() {
        Edge.says(20, "COVER NOW; the ROW: DOUBLE, WEIGHTS of all NODES.");
        EnginesOut x = Checks.on(LINE);
        Edge.due("both", x.cover(), 100);
        Edge.row("NODE 1 twice", x, 20, 100);
        x.call(2);
        Edge.due("one is OUT", x.cover(), 30);
        Edge.row("none twice", x, 0, 100);
        x.call(0);
        Edge.due("none is READY", x.cover(), 0);
        Edge.row("none twice", x, 0, 100);
        EnginesOut none = new EnginesOut();
        Edge.due("no land", none.cover(), 0);
        Edge.row("no WEIGHTS", none, 0, 0);
        EnginesOut all = Checks.on("r0-1=60;w0=99;w1=99;s0;e0,0,0,0,0,0");
        all.reach(60);
        Edge.due("six at one", all.cover(), 198);
        Edge.row("each NODE once", all, 198, 198);
    }

    private static void covers() {
        Edge.says(21, "COVER of one ENGINE at each of some STATIONS (bits);");
        EnginesOut x = Checks.on(LINE);
        int[] due = {0, 30, 90, 100, 70, 100, 90, 100};
        for (int bits = 0; bits < 8; bits++) {
            Edge.due("covers(" + bits + ")", x.covers(bits), due[bits]);
        }
        x.call(0);
        x.call(0);
        Edge.due("whoever is OUT", x.covers(7), 100);

        Edge.says(21, "the ROW: NODES REACHED, as bits.");
        int[] nodes = {0, 3, 14, 15, 12, 15, 14, 15};
        for (int bits = 0; bits < 8; bits++) {
            x.covers(bits);
            Edge.row("covers(" + bits + ")", x, nodes[bits]);
        }

        Edge.says(21, "NONE: bits of none such.");
        for (int bits : new int[] {8, 9, 15, 256, -1, LEAST, MOST, 1 << 30}) {
            Edge.due("covers(" + bits + ")", x.covers(bits), -1);
        }
        Edge.row("the ROW stays", x, 15);
        EnginesOut eight = Checks.on(EIGHT);
        Edge.due("all eight", eight.covers(255), 36);
        Edge.due("the eighth", eight.covers(128), 8);
        Edge.due("a ninth", eight.covers(256), -1);
        Edge.due("a ninth with others", eight.covers(511), -1);
        EnginesOut none = new EnginesOut();
        Edge.due("none of none", none.covers(0), 0);
        Edge.due("one of none", none.covers(1), -1);
    }

    private static void share() {
        Edge.says(22, "COVER NOW by WEIGHTS of all, both as floats, the first by the second, as Float.floatToIntBits tells it.");
        Edge.due("0 by 0", new EnginesOut().share(), Float.floatToIntBits(Float.NaN));
        Edge.due("0 by 0", Checks.on("s0;e0").share(), 0x7fc00000);
        Edge.due("all", Checks.on("w0=7;s0;e0").share(), Float.floatToIntBits(1f));
        Edge.due("none", Checks.on("w0=7;s1;e0").share(), 0);
        for (int whole = 1; whole <= 99; whole++) {
            for (int part = 0; part <= whole; part += 1 + whole / 9) {
                EnginesOut x = Checks.on("w0=" + part + ";w1=" + (whole - part) + ";s0;e0");
                Edge.due(part + " by " + whole, x.share(), Float.floatToIntBits((float) part / (float) whole));
            }
        }
        EnginesOut large = Checks.on("w0=1;w1=99;w2=99;w3=99;w4=99;w5=99;w6=99;w7=99;w8=99;w9=99;w10=99;w11=99;s0,1;e0");
        Edge.due("1 by 1090", large.share(), Float.floatToIntBits(1f / 1090f));
        large.call(0);
        Edge.due("0 by 1090", large.share(), 0);
    }

    private static void best() {
        Edge.says(23, "The greatest COVER of k ENGINES (0 .. 8; 0 to how many STATIONS there are) at unlike STATIONS;");
        EnginesOut x = Checks.on(LINE);
        int[] due = {0, 90, 100, 100};
        for (int k = 0; k < due.length; k++) {
            Edge.due("best(" + k + ")", x.best(k), due[k]);
        }
        EnginesOut eight = Checks.on(EIGHT);
        Edge.due("more than there are ENGINES", eight.best(8), 36);
        Edge.due("unlike ones", eight.best(2), 15);
        Edge.due("no STATIONS", new EnginesOut().best(0), 0);

        Edge.says(23, "the ROW: these, as bits, of like ones the least; DOUBLE of them.");
        long[][] rows = {{0, 0}, {2, 0}, {3, 20}, {7, 90}};
        for (int k = 0; k < rows.length; k++) {
            x.best(k);
            Edge.row("best(" + k + ")", x, rows[k]);
        }
        eight.best(8);
        Edge.row("all", eight, 255, 0);
        EnginesOut like = Checks.on("w5=3;w6=3;s9,6,5,10");
        like.best(1);
        Edge.row("of like ones the least", like, 2, 0);
        like.best(3);
        Edge.row("of like ones the least", like, 7, 0);

        Edge.says(23, "NONE: another k.");
        for (int k : new int[] {4, 5, 8, 9, -1, LEAST, MOST}) {
            Edge.due("best(" + k + ")", x.best(k), -1);
        }
        Edge.row("the ROW stays", x, 7, 90);
        Edge.due("9 of eight", eight.best(9), -1);
        Edge.due("1 of none", new EnginesOut().best(1), -1);
    }

    private static void nested() {
        Edge.says(24, "For k 0, 1, .. to how many STATIONS there are: whether the STATIONS of best(k) all are among those of best(k + 1):"
            + " how often;");
        Edge.due("the best one is not among the best two", Checks.on(STAR).nested(), 2);
        Edge.due("all of three", Checks.on(LINE).nested(), 3);
        Edge.due("all of eight", Checks.on(EIGHT).nested(), 8);
        Edge.due("one", Checks.on("s0").nested(), 1);
        Edge.due("none", new EnginesOut().nested(), 0);

        Edge.says(24, "the ROW: the STATIONS of best(k) by k.");
        EnginesOut x = Checks.on(STAR);
        x.nested();
        Edge.row("0 to 3", x, 0, 1, 6, 7);
        EnginesOut eight = Checks.on(EIGHT);
        eight.nested();
        Edge.row("0 to 8", eight, 0, 128, 192, 224, 240, 248, 252, 254, 255);
        EnginesOut none = new EnginesOut();
        none.nested();
        Edge.row("0 alone", none, 0);
    }

    private static void greedy() {
        Edge.says(25, "STATIONS one by one, each time that one which makes COVER of those so far and it greatest, of equal ones the least:");
        EnginesOut x = Checks.on(LINE);
        x.greedy();
        Edge.row("90, then 10 more, then nothing more", x, 1, 0, 2);
        EnginesOut eight = Checks.on(EIGHT);
        eight.greedy();
        Edge.row("the heaviest first", eight, 7, 6, 5, 4, 3, 2, 1, 0);
        EnginesOut like = Checks.on("s9,6,5,10");
        like.greedy();
        Edge.row("of equal ones the least", like, 0, 1, 2, 3);

        Edge.says(25, "in how many numbers of STATIONS COVER is less than best();");
        Edge.due("with two", Checks.on(STAR).greedy(), 1);
        Edge.due("never", Checks.on(LINE).greedy(), 0);
        Edge.due("no STATIONS", new EnginesOut().greedy(), 0);
        // The middle is best alone and beside another, but three are best without it.
        EnginesOut twice = Checks.on("r0-1=8;r0-2=8;r0-3=8;r4-1=8;r4-5=8;r6-2=8;r6-7=8;r8-3=8;r8-9=8;"
            + "w1=10;w2=10;w3=10;w5=9;w7=9;w9=9;s0,4,6,8");
        Edge.due("30 of 30, 39 of 39, 48 of 57, 57 of 57", twice.greedy(), 1);

        Edge.says(25, "the ROW: the STATIONS as they came.");
        EnginesOut star = Checks.on(STAR);
        star.greedy();
        Edge.row("three", star, 0, 1, 2);
        twice.greedy();
        Edge.row("four", twice, 0, 1, 2, 3);
        EnginesOut none = new EnginesOut();
        none.cover();
        none.greedy();
        Edge.row("none came", none);
    }

    private static void dearest() {
        Edge.says(26, "How much less COVER NOW would be without all READY ENGINES at one STATION: of STATIONS (with READY ENGINES or not)"
            + " that by which it would be the most, of equal ones the first: it;");
        EnginesOut x = Checks.on(LINE);
        Edge.due("70 less without that at 1", x.dearest(), 1);
        x.call(2);
        Edge.due("it is OUT", x.dearest(), 0);
        x.call(0);
        Edge.due("none is READY", x.dearest(), 0);
        Edge.due("all at one go", Checks.on("w0=5;w1=9;s0,1;e0,1,1,1").dearest(), 1);
        Edge.due("of equal ones the first", Checks.on("w0=5;w1=5;w2=4;s2,1,0;e0,1,2").dearest(), 1);
        Edge.due("the first, where none is", Checks.on("w1=0;s0,1;e1").dearest(), 0);
        Edge.due("no ENGINES", Checks.on("w0=5;s0,1").dearest(), 0);

        Edge.says(26, "the ROW: how much less.");
        EnginesOut y = Checks.on(LINE);
        y.dearest();
        Edge.row("NODE 1 is still REACHED", y, 70);
        y.call(2);
        y.dearest();
        Edge.row("all there is", y, 30);
        y.call(0);
        y.dearest();
        Edge.row("nothing", y, 0);
        EnginesOut both = Checks.on("r0-1=5;w0=7;w1=8;s0,1;e0,1");
        both.dearest();
        Edge.row("each does what the other does", both, 0);

        Edge.says(26, "-2: there are no STATIONS.");
        EnginesOut none = Checks.on("w0=5");
        none.cover();
        Edge.due("none", none.dearest(), -2);
        Edge.row("the ROW stays", none, 0, 5);
    }

    private static void dearestRoad() {
        Edge.says(27, "The ROAD without which COVER NOW is least, of equal ones the first as told: 100 times its lesser NODE, and its"
            + " greater one;");
        Edge.due("2 - 3", Checks.on(LINE).dearestRoad(), 203);
        Edge.due("the first of equal ones, its lesser NODE first", Checks.on("r11-10=8;r5-4=8;w10=5;w4=5;s11,5;e0,1").dearestRoad(), 1011);
        Edge.due("as told", Checks.on("r5-4=8;r11-10=8;w10=5;w4=5;s11,5;e0,1").dearestRoad(), 405);
        Edge.due("0 and 1", Checks.on("r1-0=8;w1=5;s0;e0").dearestRoad(), 1);
        Edge.due("0 and 11", Checks.on("r4-5=1;r11-0=8;w11=5;s0;e0").dearestRoad(), 11);
        Edge.due("none matters: the first", Checks.on("r7-6=8;r1-0=8").dearestRoad(), 607);
        EnginesOut round = Checks.on("r0-1=2;r1-2=2;r2-0=9;w2=9;s0;e0");
        Edge.due("round by 9 is too far", round.dearestRoad(), 1);
        round.reach(9);
        Edge.due("round by 9 will do: the first", round.dearestRoad(), 1);
        EnginesOut shut = Checks.on(LINE);
        shut.shuts(0, 1, true);
        shut.shuts(2, 3, true);
        Edge.due("one is OPEN", shut.dearestRoad(), 102);
        EnginesOut like = Checks.on("r6-7=1;r8-9=1;s0;e0");
        like.shuts(6, 7, true);
        Edge.due("of OPEN ones the first", like.dearestRoad(), 809);
        Edge.due("it stays OPEN", like.far(8, 9), 1);

        Edge.says(27, "the ROW: COVER then.");
        EnginesOut x = Checks.on(LINE);
        x.dearestRoad();
        Edge.row("40 less", x, 60);
        Edge.due("COVER NOW", x.cover(), 100);
        x.call(2);
        Edge.due("0 - 1", x.dearestRoad(), 1);
        Edge.row("by READY ones", x, 10);
        x.call(0);
        Edge.due("none is READY: the first", x.dearestRoad(), 1);
        Edge.row("nothing", x, 0);

        Edge.says(27, "-2: no ROAD is OPEN.");
        shut.reached(0);
        shut.shuts(1, 2, true);
        Edge.due("all are shut", shut.dearestRoad(), -2);
        Edge.row("the ROW stays", shut, 10);
        Edge.due("there are none", Checks.on("w0=1;s0;e0").dearestRoad(), -2);
        Edge.due("no land", new EnginesOut().dearestRoad(), -2);
    }

    private static void least() {
        Edge.says(28, "The least REACH (1 .. 60) by which COVER NOW would be v or more; the ROW: COVER by it.");
        EnginesOut x = Checks.on("r0-1=1;r0-2=2;r0-3=59;r0-4=60;r4-5=1;w0=1;w1=2;w2=4;w3=8;w4=16;w5=32;s0;e0");
        int[][] due = {{0, 1, 3}, {1, 1, 3}, {3, 1, 3}, {4, 2, 7}, {7, 2, 7}, {8, 59, 15}, {15, 59, 15}, {16, 60, 31}, {31, 60, 31}};
        for (int[] d : due) {
            Edge.due("least(" + d[0] + ")", x.least(d[0]), d[1]);
            Edge.row("least(" + d[0] + ")", x, d[2]);
        }
        Edge.due("REACH is as it was", x.reach(8), 8);
        EnginesOut none = new EnginesOut();
        Edge.due("0 of none", none.least(0), 1);
        Edge.row("COVER", none, 0);

        Edge.says(28, "-2: by none; NONE: v is below 0.");
        for (int v : new int[] {32, 63, 64, MOST}) {
            Edge.due("least(" + v + ")", x.least(v), -2);
        }
        for (int v : new int[] {-1, -2, LEAST}) {
            Edge.due("least(" + v + ")", x.least(v), -1);
        }
        Edge.row("the ROW stays", x, 31);
        x.call(0);
        Edge.due("none is READY", x.least(1), -2);
        Edge.due("none is READY, and none need be", x.least(0), 1);
        Edge.row("COVER", x, 0);
    }

    private static void twice() {
        Edge.says(29, "The greatest DOUBLE of k ENGINES (0 .. 8; 0 to how many STATIONS there are) at unlike STATIONS;");
        EnginesOut x = Checks.on(LINE);
        int[] due = {0, 0, 70, 90};
        for (int k = 0; k < due.length; k++) {
            Edge.due("twice(" + k + ")", x.twice(k), due[k]);
        }
        EnginesOut eight = Checks.on("r0-1=1;w0=9;w1=8;s0,1,2,3,4,5,6,7");
        Edge.due("all eight", eight.twice(8), 17);
        Edge.due("no STATIONS", new EnginesOut().twice(0), 0);

        Edge.says(29, "the ROW: these, as bits, of like ones the least; their COVER.");
        long[][] rows = {{0, 0}, {1, 30}, {6, 90}, {7, 100}};
        for (int k = 0; k < rows.length; k++) {
            x.twice(k);
            Edge.row("twice(" + k + ")", x, rows[k]);
        }
        eight.twice(3);
        Edge.row("of like ones the least", eight, 7, 17);
        eight.twice(8);
        Edge.row("all", eight, 255, 17);

        Edge.says(29, "NONE: another k.");
        for (int k : new int[] {4, 5, 8, 9, -1, LEAST, MOST}) {
            Edge.due("twice(" + k + ")", x.twice(k), -1);
        }
        Edge.row("the ROW stays", x, 7, 100);
        Edge.due("9 of eight", eight.twice(9), -1);
        Edge.due("1 of none", new EnginesOut().twice(1), -1);
    }

    private static void spread() {
        Edge.says(30, "The sum, over all NODES, of WEIGHT times FAR from the nearest READY ENGINE's POST (999, if there is none);");
        EnginesOut x = Checks.on(LINE);
        Edge.due("20 x 4 + 40 x 6", x.spread(), 320);
        x.call(2);
        Edge.due("20 x 5 + 30 x 9 + 40 x 15", x.spread(), 970);
        x.call(0);
        Edge.due("none is READY", x.spread(), 99900);
        Edge.due("none has a way", Checks.on("w0=3;w5=2;s0;e0").spread(), 1998);
        Edge.due("no ENGINES", Checks.on("w0=3;s0").spread(), 2997);
        Edge.due("no land", new EnginesOut().spread(), 0);
        Edge.due("at its POST", Checks.on("w0=3;s0;e0").spread(), 0);

        Edge.says(30, "the ROW: the greatest such FAR of NODES with WEIGHT, the first NODE with it (0, NONE: none has WEIGHT).");
        EnginesOut y = Checks.on("r0-1=5;r0-2=7;r0-3=7;r0-4=9;w1=9;w3=1;w2=1;w4=0;s0;e0");
        y.spread();
        Edge.row("4 has no WEIGHT; 2 is the first of 7", y, 7, 2);
        EnginesOut zero = Checks.on("w5=3;s5;e0");
        zero.spread();
        Edge.row("0 off", zero, 0, 5);
        EnginesOut away = Checks.on("w0=3;w5=2;w6=2;s0;e0");
        away.spread();
        Edge.row("no way", away, 999, 5);
        EnginesOut none = Checks.on("r0-1=5;w1=0;s0;e0");
        none.spread();
        Edge.row("none has WEIGHT", none, 0, -1);
        EnginesOut empty = new EnginesOut();
        empty.spread();
        Edge.row("no land", empty, 0, -1);
    }
}
