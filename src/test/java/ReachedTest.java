/** Promises 20 to 30: what is reached, now and by the best stations. */
public final class ReachedTest {
    private static final String LAND = "r0-1=5;r1-2=4;r2-3=6;w0=10;w1=20;w2=30;w3=40;s0,2,3;e0,1";
    // Stations at 0 {0,1,2}, 3 {1,3,4}, 6 {2,6,7}: the middle of three is best alone, and not in the best two.
    private static final String STAR = "r0-1=8;r0-2=8;r3-1=8;r3-4=8;r6-2=8;r6-7=8;"
        + "w0=1;w1=10;w2=10;w3=1;w4=9;w6=1;w7=9;s0,3,6;e0";

    private static void due(String what, long got, long want) {
        Checks.due(what, got, want);
    }

    public static void main(String[] args) {
        cover();
        covers();
        share();
        best();
        nestedAndGreedy();
        dearest();
        dearestRoad();
        least();
        twice();
        spread();
        Checks.close("ReachedTest");
    }

    private static void cover() {
        EnginesOut x = Checks.on(LAND);
        due("20: COVER", x.cover(), 100);
        Checks.rowIs("20: DOUBLE, all", x, 20, 100);
        x.call(2);
        due("20: without those OUT", x.cover(), 30);
        Checks.rowIs("20: DOUBLE, all", x, 0, 100);
        EnginesOut two = Checks.on("w5=7;w6=9;s5;e0,0");
        due("20: two at one", two.cover(), 7);
        Checks.rowIs("20: count twice", two, 7, 16);
        EnginesOut moving = Checks.on("r0-1=3;w0=5;w1=6;s0,1;e0,1");
        moving.reach(2);
        moving.post(0, 1);
        due("20: without those MOVING", moving.cover(), 6);
        moving.pass(3);
        due("20: at its new POST", moving.cover(), 6);
        Checks.rowIs("20: both there", moving, 6, 11);
        EnginesOut none = new EnginesOut();
        due("20: nothing", none.cover(), 0);
        Checks.rowIs("20: nothing", none, 0, 0);
    }

    private static void covers() {
        EnginesOut x = Checks.on(LAND);
        due("21: none", x.covers(0), 0);
        Checks.rowIs("21: no NODES", x, 0);
        due("21: the first", x.covers(1), 30);
        Checks.rowIs("21: NODES", x, 3);
        due("21: the last", x.covers(4), 70);
        Checks.rowIs("21: NODES", x, 12);
        due("21: all", x.covers(7), 100);
        Checks.rowIs("21: NODES", x, 15);
        int[] wrong = {8, -1, 9, Integer.MIN_VALUE, Integer.MAX_VALUE};
        for (int bits : wrong) {
            due("21: covers(" + bits + ")", x.covers(bits), -1);
        }
        Checks.rowIs("21: the ROW stays", x, 15);
        x.call(0);
        x.call(2);
        due("21: whoever is OUT", x.covers(7), 100);
        EnginesOut eight = Checks.on("w7=3;s0,1,2,3,4,5,6,7");
        due("21: eight", eight.covers(255), 3);
        due("21: a ninth", eight.covers(256), -1);
    }

    private static void share() {
        EnginesOut none = new EnginesOut();
        due("22: 0 by 0 is no number", none.share(), Float.floatToIntBits(Float.NaN));
        EnginesOut x = Checks.on(LAND);
        due("22: all", x.share(), Float.floatToIntBits(1f));
        x.call(2);
        due("22: 30 of 100", x.share(), Float.floatToIntBits(0.3f));
        x.call(0);
        due("22: none", x.share(), 0);
        for (int a = 1; a <= 99; a++) {
            for (int b = 0; b <= 99; b++) {
                EnginesOut y = Checks.on("w0=" + a + ";w1=" + b + ";w2=" + a + ";w3=" + (99 - b) + ";w4=99;s0;e0");
                due("22: " + a + " of them", y.share(), Float.floatToIntBits((float) a / (float) (2 * a + 198)));
                EnginesOut z = Checks.on("w0=" + a + ";w1=" + b + ";s0;e0");
                due("22: " + a + " of " + (a + b), z.share(), Float.floatToIntBits((float) a / (float) (a + b)));
            }
        }
        String text = "w0=1";
        for (int a = 1; a < 12; a++) {
            text += ";w" + a + "=99";
        }
        EnginesOut least = Checks.on(text + ";s0;e0");
        due("22: the least share", least.share(), Float.floatToIntBits(1f / 1090f));
    }

    private static void best() {
        EnginesOut x = Checks.on(LAND);
        due("23: best(0)", x.best(0), 0);
        Checks.rowIs("23: none", x, 0, 0);
        due("23: best(1)", x.best(1), 90);
        Checks.rowIs("23: bits, DOUBLE", x, 2, 0);
        due("23: best(2)", x.best(2), 100);
        Checks.rowIs("23: of like ones the least", x, 3, 20);
        due("23: best(3)", x.best(3), 100);
        Checks.rowIs("23: bits, DOUBLE", x, 7, 90);
        int[] wrong = {4, -1, 8, 9, Integer.MIN_VALUE, Integer.MAX_VALUE};
        for (int k : wrong) {
            due("23: best(" + k + ")", x.best(k), -1);
        }
        Checks.rowIs("23: the ROW stays", x, 7, 90);
        EnginesOut none = new EnginesOut();
        due("23: no STATIONS", none.best(0), 0);
        due("23: no STATIONS", none.best(1), -1);
        EnginesOut like = Checks.on("w1=5;w2=5;s0,2,1,3");
        due("23: like ones", like.best(1), 5);
        Checks.rowIs("23: the least bits", like, 2, 0);
        due("23: like ones", like.best(3), 10);
        Checks.rowIs("23: the least bits", like, 7, 0);
    }

    private static void nestedAndGreedy() {
        EnginesOut x = Checks.on(STAR);
        due("24: best(1) is not in best(2)", x.nested(), 2);
        Checks.rowIs("24: by k", x, 0, 1, 6, 7);
        due("25: less than best with two", x.greedy(), 1);
        Checks.rowIs("25: as they came", x, 0, 1, 2);
        EnginesOut line = Checks.on(LAND);
        due("24: all nested", line.nested(), 3);
        Checks.rowIs("24: by k", line, 0, 2, 3, 7);
        due("25: never less", line.greedy(), 0);
        Checks.rowIs("25: the best one first, of equal ones the least", line, 1, 0, 2);
        EnginesOut none = new EnginesOut();
        due("24: no STATIONS", none.nested(), 0);
        Checks.rowIs("24: k is 0", none, 0);
        due("25: no STATIONS", none.greedy(), 0);
        Checks.rowIs("25: none came", none);
        EnginesOut empty = Checks.on("s4,5,6,7,8,9,10,11");
        due("24: no WEIGHTS", empty.nested(), 8);
        Checks.rowIs("24: the least bits", empty, 0, 1, 3, 7, 15, 31, 63, 127, 255);
        due("25: no WEIGHTS", empty.greedy(), 0);
        Checks.rowIs("25: as they are told", empty, 0, 1, 2, 3, 4, 5, 6, 7);
    }

    private static void dearest() {
        EnginesOut x = Checks.on(LAND);
        due("26: dearest", x.dearest(), 1);
        Checks.rowIs("26: how much less", x, 70);
        x.call(2);
        due("26: of READY ones", x.dearest(), 0);
        Checks.rowIs("26: how much less", x, 30);
        x.call(0);
        due("26: none READY, the first", x.dearest(), 0);
        Checks.rowIs("26: nothing less", x, 0);
        EnginesOut two = Checks.on("r0-1=1;w0=5;w2=7;w3=7;s0,2,3;e0,0,1,1,2");
        due("26: all ENGINES at it, the first of equal ones", two.dearest(), 1);
        Checks.rowIs("26: how much less", two, 7);
        EnginesOut none = new EnginesOut();
        due("26: no STATIONS", none.dearest(), -2);
        Checks.rowIs("26: the ROW stays", none);
    }

    private static void dearestRoad() {
        EnginesOut x = Checks.on(LAND);
        due("27: the road to 3", x.dearestRoad(), 203);
        Checks.rowIs("27: COVER then", x, 60);
        due("27: asked alone", x.cover(), 100);
        x.shuts(2, 3, true);
        due("27: of OPEN ones, the first of equal ones", x.dearestRoad(), 1);
        Checks.rowIs("27: COVER then", x, 60);
        x.shuts(0, 1, true);
        due("27: the one left", x.dearestRoad(), 102);
        Checks.rowIs("27: COVER then", x, 40);
        x.shuts(1, 2, true);
        due("27: none is OPEN", x.dearestRoad(), -2);
        Checks.rowIs("27: the ROW stays", x, 40);
        EnginesOut y = Checks.on("r11-10=8;r5-4=3;w10=5;w4=5;s11,5;e0,1");
        due("27: the lesser NODE first, as told first", y.dearestRoad(), 1011);
        Checks.rowIs("27: COVER then", y, 5);
        EnginesOut round = Checks.on("r0-1=2;r1-2=2;r0-2=9;w2=9;s0;e0");
        due("27: the way round is too far", round.dearestRoad(), 1);
        Checks.rowIs("27: COVER then", round, 0);
        round.reach(9);
        due("27: the way round will do", round.dearestRoad(), 1);
        Checks.rowIs("27: COVER then", round, 9);
    }

    private static void least() {
        EnginesOut x = Checks.on(LAND);
        due("28: 0", x.least(0), 1);
        Checks.rowIs("28: COVER by it", x, 40);
        due("28: 41", x.least(41), 4);
        Checks.rowIs("28: COVER by it", x, 60);
        due("28: 100", x.least(100), 6);
        Checks.rowIs("28: COVER by it", x, 100);
        due("28: by none", x.least(101), -2);
        due("28: by none", x.least(Integer.MAX_VALUE), -2);
        due("28: below 0", x.least(-1), -1);
        due("28: below 0", x.least(Integer.MIN_VALUE), -1);
        Checks.rowIs("28: the ROW stays", x, 100);
        due("28: REACH stays", x.reach(8), 8);
        EnginesOut far = Checks.on("r0-1=60;r1-2=1;w1=1;w2=1;s0;e0");
        due("28: 60 at most", far.least(1), 60);
        due("28: 61 is none", far.least(2), -2);
        far.call(0);
        due("28: none is READY", far.least(1), -2);
    }

    private static void twice() {
        EnginesOut x = Checks.on(LAND);
        due("29: none", x.twice(0), 0);
        Checks.rowIs("29: none", x, 0, 0);
        due("29: one", x.twice(1), 0);
        Checks.rowIs("29: the least bits, COVER", x, 1, 30);
        due("29: two", x.twice(2), 70);
        Checks.rowIs("29: bits, COVER", x, 6, 90);
        due("29: three", x.twice(3), 90);
        Checks.rowIs("29: bits, COVER", x, 7, 100);
        int[] wrong = {4, -1, 9, Integer.MIN_VALUE, Integer.MAX_VALUE};
        for (int k : wrong) {
            due("29: twice(" + k + ")", x.twice(k), -1);
        }
        Checks.rowIs("29: the ROW stays", x, 7, 100);
    }

    private static void spread() {
        EnginesOut x = Checks.on(LAND);
        due("30: 20 x 4 + 40 x 6", x.spread(), 320);
        Checks.rowIs("30: the farthest", x, 6, 3);
        x.call(2);
        due("30: 20 x 5 + 30 x 9 + 40 x 15", x.spread(), 970);
        Checks.rowIs("30: the farthest", x, 15, 3);
        x.call(0);
        due("30: none is READY", x.spread(), 99900);
        Checks.rowIs("30: the first of all", x, 999, 0);
        EnginesOut y = Checks.on("r0-1=5;r0-2=5;w1=2;w2=3;w9=0;s0;e0");
        due("30: like ones", y.spread(), 25);
        Checks.rowIs("30: the first NODE", y, 5, 1);
        EnginesOut at = Checks.on("w4=3;s4;e0");
        due("30: at its POST", at.spread(), 0);
        Checks.rowIs("30: it has WEIGHT", at, 0, 4);
        EnginesOut none = Checks.on("s4;e0");
        due("30: no WEIGHT", none.spread(), 0);
        Checks.rowIs("30: none", none, 0, -1);
        EnginesOut away = Checks.on("w5=2;w4=1;s4;e0");
        due("30: no way", away.spread(), 1998);
        Checks.rowIs("30: 999", away, 999, 5);
    }
}
