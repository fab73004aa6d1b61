/** Promises 36 to 42: regret, moves, by hand too, and how many an hour. */
public final class MovesTest {
    private static final String LAND = "r0-1=5;r1-2=4;r2-3=6;w0=10;w1=20;w2=30;w3=40;s0,2,3;e0,1";

    private static void due(String what, long got, long want) {
        Checks.due(what, got, want);
    }

    public static void main(String[] args) {
        regret();
        moves();
        movesLikeOnes();
        movesNoWay();
        up();
        upWithinLimit();
        post();
        swap();
        left();
        leftOfMany();
        needs();
        Checks.close("MovesTest");
    }

    private static void regret() {
        EnginesOut x = Checks.on(LAND);
        due("36: none", x.regret(), 0);
        Checks.rowIs("36: COVER, greatest", x, 100, 100);
        x.call(2);
        due("36: 90 could be", x.regret(), 60);
        Checks.rowIs("36: COVER, greatest", x, 30, 90);
        x.call(0);
        due("36: none READY", x.regret(), 0);
        Checks.rowIs("36: COVER, greatest", x, 0, 0);
        EnginesOut away = Checks.on("w0=1;w5=9;s0,5;e0");
        due("36: at any STATIONS, with a way or not", away.regret(), 8);
        EnginesOut more = Checks.on("w0=1;w5=9;s0,5;e0,0,0");
        due("36: more ENGINES than STATIONS", more.regret(), 9);
        Checks.rowIs("36: COVER, greatest", more, 1, 10);
    }

    private static void moves() {
        EnginesOut x = Checks.on(LAND);
        x.call(2);
        due("37: one moves", x.moves(1), 90);
        Checks.rowIs("37: MINUTES, ENGINE, POST", x, 9, 0, 1);
        due("37: no more than is READY", x.moves(6), 90);
        Checks.rowIs("37: MINUTES, ENGINE, POST", x, 9, 0, 1);
        due("37: none may", x.moves(0), 30);
        Checks.rowIs("37: no MINUTES", x, 0);
        due("37: asked alone", x.engine(0, 0), 0);
        due("37: asked alone", x.count(10), 0);
        int[] wrong = {-1, 7, Integer.MIN_VALUE, Integer.MAX_VALUE};
        for (int n : wrong) {
            due("37: moves(" + n + ")", x.moves(n), -1);
        }
        Checks.rowIs("37: the ROW stays", x, 0);
        x.limit(0);
        due("37: whatever LIMIT is", x.moves(1), 90);
        EnginesOut none = new EnginesOut();
        due("37: no ENGINES", none.moves(3), 0);
        Checks.rowIs("37: no MINUTES", none, 0);
    }

    private static void movesLikeOnes() {
        // 20 by two moves, 11 by one; nothing is worth the third.
        EnginesOut x = Checks.on("r0-1=30;r0-2=20;r1-2=9;w0=1;w1=10;w2=9;s0,1,2;e0,0,0");
        due("37: n is 1", x.moves(1), 11);
        Checks.rowIs("37: the first row of POSTS", x, 29, 2, 1);
        due("37: n is 2", x.moves(2), 20);
        Checks.rowIs("37: ENGINES that rise, the least POSTS first", x, 49, 1, 1, 2, 2);
        due("37: n is 3", x.moves(3), 20);
        Checks.rowIs("37: the fewest ENGINES", x, 49, 1, 1, 2, 2);
        // Two engines far apart, one gap: the one with the shorter way goes, though it is the greater.
        EnginesOut y = Checks.on("r0-1=30;r2-1=20;w1=9;s0,1,2;e0,2");
        due("37: one goes", y.moves(2), 9);
        Checks.rowIs("37: the fewest MINUTES", y, 20, 1, 1);
        // The one that is missed least: COVER comes before MINUTES.
        EnginesOut z = Checks.on("r0-1=30;r2-1=20;w1=9;w2=1;s0,1,2;e0,2");
        due("37: one goes", z.moves(1), 10);
        Checks.rowIs("37: the greatest COVER first", z, 30, 0, 1);
        // One move of 40 rather than two of 10 each.
        EnginesOut w = Checks.on("r0-1=10;r1-2=10;r0-3=40;r3-2=40;w0=1;w1=5;w2=7;s0,1,2,3;e3,1");
        due("37: n is 6", w.moves(6), 12);
        Checks.rowIs("37: fewer ENGINES before fewer MINUTES", w, 40, 0, 2);
        EnginesOut stay = Checks.on("r0-1=1;w0=5;s0,1;e0,1");
        due("37: none need move", stay.moves(6), 5);
        Checks.rowIs("37: none", stay, 0);
    }

    private static void movesNoWay() {
        EnginesOut x = Checks.on("r0-1=9;w0=1;w1=2;w5=50;s0,1,5;e0,0");
        due("37: to where there is a way alone", x.moves(6), 3);
        Checks.rowIs("37: MINUTES, ENGINE, POST", x, 9, 1, 1);
        x.shuts(0, 1, true);
        due("37: by OPEN ROADS alone", x.moves(6), 1);
        Checks.rowIs("37: none", x, 0);
        due("42: REGRET stays", x.needs(), -2);
    }

    private static void up() {
        EnginesOut x = Checks.on(LAND);
        x.call(2);
        int[] wrong = {-1, 7, Integer.MIN_VALUE, Integer.MAX_VALUE};
        for (int n : wrong) {
            due("38: up(" + n + ")", x.up(n), -1);
        }
        due("38: up(0)", x.up(0), 0);
        Checks.rowIs("38: COVER of MOVES, COVER NOW", x, 30, 30);
        due("38: up(6)", x.up(6), 1);
        Checks.rowIs("38: COVER of MOVES, COVER NOW", x, 90, 0);
        due("38: MOVING", x.count(4), 1);
        due("38: POST", x.engine(0, 0), 1);
        due("38: in 9", x.engine(0, 2), 9);
        due("38: moved", x.count(10), 1);
        due("38: none is READY", x.up(6), 0);
        Checks.rowIs("38: COVER of MOVES, COVER NOW", x, 0, 0);
        due("38: moved", x.count(10), 1);
        x.pass(9);
        due("38: there", x.cover(), 90);
        EnginesOut y = Checks.on("r0-1=30;r0-2=20;r1-2=9;w0=1;w1=10;w2=9;s0,1,2;e0,0,0");
        due("38: two", y.up(6), 2);
        Checks.rowIs("38: COVER of MOVES, COVER NOW of the third", y, 20, 1);
        due("38: each has its own way", y.engine(1, 2), 29);
        due("38: each has its own way", y.engine(2, 2), 20);
    }

    private static void upWithinLimit() {
        EnginesOut x = Checks.on("r0-1=30;r0-2=20;r1-2=9;w0=1;w1=10;w2=9;s0,1,2;e0,0,0");
        x.limit(1);
        due("38: LIMIT lets one", x.up(6), 1);
        Checks.rowIs("38: COVER of MOVES of one", x, 11, 1);
        due("38: the one of MOVES of one", x.count(4), 4);
        due("38: LIMIT lets none", x.up(6), 0);
        Checks.rowIs("38: COVER of MOVES of none", x, 1, 1);
        x.pass(59);
        due("38: LIMIT lets none yet", x.up(6), 0);
        x.pass(1);
        due("38: one more", x.up(6), 1);
        due("38: moved", x.count(10), 2);
    }

    private static void post() {
        EnginesOut x = Checks.on("r0-1=9;r1-2=7;s0,1,2,5;e0,1");
        x.cover();
        due("39: no such ENGINE", x.post(2, 0), -1);
        due("39: no such ENGINE", x.post(-1, 0), -1);
        due("39: no such STATION", x.post(0, 4), -1);
        due("39: no such STATION", x.post(0, -1), -1);
        due("39: its POST", x.post(0, 0), -3);
        due("39: no way", x.post(0, 3), -3);
        due("39: 16", x.post(0, 2), 16);
        due("39: MOVING", x.engine(0, 1), 1);
        due("39: in 16", x.engine(0, 2), 16);
        due("39: POST", x.engine(0, 0), 2);
        due("39: counts", x.count(10), 1);
        due("39: not READY", x.post(0, 1), -2);
        due("39: not READY before no way", x.post(0, 3), -2);
        x.limit(1);
        due("39: LIMIT", x.post(1, 0), -4);
        due("39: no way before LIMIT", x.post(1, 3), -3);
        due("39: refused", x.engine(1, 0), 1);
        due("39: counts", x.count(10), 1);
        x.pass(60);
        due("39: LIMIT lets it again", x.post(1, 0), 9);
        Checks.rowIs("39: the ROW stays", x, 0, 0);
    }

    private static void swap() {
        EnginesOut x = Checks.on("r0-1=9;r1-2=7;s0,1,2,5;e0,1,2,0,3");
        x.cover();
        due("40: one and the same", x.swap(1, 1), -1);
        due("40: no such", x.swap(1, 5), -1);
        due("40: no such", x.swap(-1, 1), -1);
        due("40: one POST is both", x.swap(0, 3), -3);
        due("40: no way", x.swap(0, 4), -3);
        due("40: MINUTES", x.swap(2, 0), 16);
        due("40: POST", x.engine(2, 0), 0);
        due("40: POST", x.engine(0, 0), 2);
        due("40: both MOVING", x.count(4), 5);
        due("40: in 16", x.engine(0, 2), 16);
        due("40: in 16", x.engine(2, 2), 16);
        due("40: two moved", x.count(10), 2);
        due("40: the first is not READY", x.swap(0, 1), -2);
        due("40: the second is not READY", x.swap(1, 0), -2);
        due("40: NONE first", x.swap(0, 0), -1);
        x.limit(3);
        due("40: LIMIT lets one, not two", x.swap(1, 3), -4);
        due("40: no way before LIMIT", x.swap(1, 4), -3);
        due("40: refused", x.engine(1, 0), 1);
        x.limit(4);
        due("40: LIMIT lets two", x.swap(1, 3), 9);
        due("40: four moved", x.count(10), 4);
        Checks.rowIs("40: the ROW stays", x, 0, 0);
    }

    private static void left() {
        EnginesOut x = Checks.on(LAND);
        due("41: six", x.left(), 6);
        Checks.rowIs("41: now", x, 0);
        x.post(0, 1);
        due("41: five", x.left(), 5);
        x.pass(10);
        x.post(1, 0);
        x.limit(2);
        due("41: none", x.left(), 0);
        Checks.rowIs("41: at 60", x, 50);
        x.limit(1);
        due("41: none", x.left(), 0);
        Checks.rowIs("41: at 70", x, 60);
        x.limit(0);
        due("41: none", x.left(), 0);
        Checks.rowIs("41: never", x, -1);
        x.limit(2);
        x.pass(49);
        due("41: at 59 none", x.left(), 0);
        Checks.rowIs("41: at 60", x, 1);
        x.pass(1);
        due("41: at 60 one", x.left(), 1);
        Checks.rowIs("41: now", x, 0);
        x.pass(9);
        due("41: at 69 one", x.left(), 1);
        x.pass(1);
        due("41: at 70 two", x.left(), 2);
    }

    /** 20 moves an hour, over more than an hour: the first ones fall out of the count again. */
    private static void leftOfMany() {
        EnginesOut x = Checks.on("r0-1=1;s0,1;e0,0");
        x.limit(20);
        for (int i = 0; i < 20; i++) {
            due("41: moves", x.post(0, 1 - i % 2), 1);
            due("41: still", x.left(), 19 - i);
            x.pass(2);
        }
        due("41: MINUTE", x.count(5), 40);
        due("41: LIMIT", x.post(0, 1), -4);
        due("41: none", x.left(), 0);
        Checks.rowIs("41: at 60", x, 20);
        x.limit(1);
        x.left();
        Checks.rowIs("41: the last was at 38", x, 58);
        x.limit(7);
        x.left();
        Checks.rowIs("41: the seventh last was at 26", x, 46);
        x.limit(20);
        x.pass(20);
        for (int i = 0; i < 10; i++) {
            due("41: one", x.left(), 1);
            due("41: moves again", x.post(0, 1 - i % 2), 1);
            due("41: none", x.left(), 0);
            Checks.rowIs("41: in two", x, 2);
            x.limit(2);
            x.left();
            // At 60 the one before was at 38, later two minutes ago.
            Checks.rowIs("41: the one before", x, i == 0 ? 38 : 58);
            x.limit(20);
            x.pass(2);
        }
        due("41: moved", x.count(10), 30);
    }

    private static void needs() {
        EnginesOut x = Checks.on(LAND);
        x.cover();
        due("42: none", x.needs(), 0);
        x.call(2);
        due("42: one", x.needs(), 1);
        x.limit(0);
        due("42: whatever LIMIT is", x.needs(), 1);
        EnginesOut y = Checks.on("r0-1=30;r0-2=20;r1-2=9;w0=1;w1=10;w2=9;s0,1,2;e0,0,0");
        due("42: two", y.needs(), 2);
        Checks.rowIs("42: no ROW", y);
        EnginesOut z = Checks.on("r0-1=1;r1-2=1;r2-3=1;r3-4=1;r4-5=1;r5-6=1;"
            + "w1=9;w2=9;w3=9;w4=9;w5=9;w6=9;s0,1,2,3,4,5,6;e0,0,0,0,0,0");
        z.reach(1);
        // Those at 0 reach 1; two at 3 and at 5 or 6 reach the rest.
        due("42: two of six", z.needs(), 2);
        EnginesOut away = Checks.on("w0=1;w5=9;s0,5;e0");
        due("42: no way", away.needs(), -2);
        EnginesOut all = Checks.on("r0-1=9;r0-2=9;r0-3=9;r0-4=9;r0-5=9;r0-6=9;"
            + "w1=9;w2=9;w3=9;w4=9;w5=9;w6=9;s0,1,2,3,4,5,6;e0,0,0,0,0,0");
        due("42: all six", all.needs(), 6);
        due("42: all six", all.moves(6), 54);
        Checks.rowIs("42: the first row", all, 54, 0, 1, 1, 2, 2, 3, 3, 4, 4, 5, 5, 6);
    }
}
