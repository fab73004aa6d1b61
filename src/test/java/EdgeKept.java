import java.util.NoSuchElementException;

/** Promises 43 to 46, sentence by sentence. */
final class EdgeKept {
    private static final int LEAST = Integer.MIN_VALUE;
    private static final int MOST = Integer.MAX_VALUE;

    private EdgeKept() {
    }

    static void run() {
        keeps();
        keepsManyMoves();
        back();
        count();
        countAtEdges();
        row();
    }

    /** Something else of all that can be otherwise, but for the land itself. */
    private static void change(EnginesOut x) {
        x.service(31);
        x.limit(12);
        x.pass(70);
        x.reach(2);
        x.call(9);
        for (int e = 0; e < 6; e++) {
            x.post(e, (x.engine(e, 0) + 1) % 3);
        }
        x.reach(30);
        x.shuts(3, 4, false);
        x.pass(5);
        x.call(0);
        x.call(11);
        x.storms(90, 900);
        x.seed(33);
        x.shuts(0, 1, true);
    }

    /** That change() changes all this, so that back() has something to do. */
    private static void changes() {
        EnginesOut was = State.rich();
        EnginesOut is = State.rich();
        change(is);
        for (int what : new int[] {2, 3, 4, 5, 6, 7, 8, 9, 10, 12}) {
            Edge.due("count(" + what + ") is otherwise", is.count(what) == was.count(what), false);
        }
        for (int e = 0; e < 6; e++) {
            Edge.due("POST of " + e + " is otherwise", is.engine(e, 0) == was.engine(e, 0), e == 4);
        }
        Edge.due("what moved is otherwise", is.left() == was.left(), false);
        Edge.due("ways are otherwise", is.far(0, 3) == was.far(0, 3), false);
    }

    private static void keeps() {
        Edge.says(43, "All that is (but THE TEXT, the ROW) is kept, in place of what was: MINUTE.");
        changes();
        EnginesOut x = State.rich();
        Edge.due("MINUTE", x.keeps(), 7);
        change(x);
        x.reached(0);
        x.end(2);
        String row = Checks.row(x);
        x.back();
        Edge.due("the ROW is not kept", Checks.row(x), row);
        Edge.due("THE TEXT is not kept", x.count(14), 2);
        Checks.type(x, "w0=5");
        EnginesOut twin = State.rich();
        twin.keeps();
        Edge.due("all else is as it was", State.butRow(x), State.butRow(twin));
        EnginesOut y = State.rich();
        y.keeps();
        y.pass(5);
        Edge.due("in place of what was", y.keeps(), 12);
        y.pass(5);
        Edge.due("the later", y.back(), 12);
        EnginesOut none = new EnginesOut();
        Edge.due("a new object", none.keeps(), 0);
        none.seed(9);
        Edge.due("and back", none.back(), 0);
        Edge.due("R", none.count(12), 1);
        EnginesOut same = State.rich();
        same.keeps();
        Edge.row("the ROW stays", same, 0, 110);
    }

    private static void keepsManyMoves() {
        Edge.says(43, "All that is (but THE TEXT, the ROW) is kept, in place of what was: MINUTE.");
        EnginesOut x = Checks.on("r0-1=1;s0,1;e0");
        x.limit(20);
        for (int i = 0; i < 20; i++) {
            x.post(0, 1 - i % 2);
            x.pass(3);
        }
        Edge.due("an hour with 20 moves", x.keeps(), 60);
        for (int i = 0; i < 20; i++) {
            x.post(0, 1 - x.engine(0, 0));
            x.pass(3);
        }
        Edge.due("40 moved", x.count(10), 40);
        Edge.due("back by an hour", x.back(), 60);
        Edge.due("that of MINUTE 0 counts no more", x.left(), 1);
        for (int limit = 1; limit < 20; limit++) {
            x.limit(limit);
            x.left();
            Edge.row("those of 3, 6 .. 57 do, LIMIT is " + limit, x, 60 - 3 * limit);
        }
    }

    private static void back() {
        Edge.says(44, "All that was kept is so again: MINUTE.");
        EnginesOut x = State.rich();
        Edge.due("what rich() kept", x.back(), 5);
        // OUT is engine 3, MOVING is 5.
        int[] counts = {4, 6, 1 + 2 + 4 + 16, 8, 32, 5, 2, 0, 1, 0, 1, 5, 77};
        for (int what = 0; what < counts.length; what++) {
            Edge.due("count(" + what + ")", x.count(what), counts[what]);
        }
        Edge.due("OUT for 25", x.engine(3, 2), 20);
        Edge.due("MOVING", x.engine(5, 2), 9);
        Edge.due("shut", x.shuts(3, 4, true), -3);
        Edge.due("LIMIT", x.limit(7), 7);
        change(x);
        x.reached(3);
        Edge.due("again", x.back(), 5);
        Edge.row("the ROW stays", x, 7);
        for (int what = 0; what < counts.length; what++) {
            Edge.due("again, count(" + what + ")", x.count(what), counts[what]);
        }
        Edge.due("ways as they were", x.far(0, 3), 15);
        Edge.due("shut", x.far(3, 4), 999);
        x.pass(9);
        Edge.due("it goes on from there", x.count(2), 1 + 2 + 4 + 16 + 32);

        Edge.says(44, "-2: nothing is kept.");
        EnginesOut none = Checks.on("w0=3;s0;e0");
        none.pass(3);
        none.cover();
        Edge.due("nothing", none.back(), -2);
        Edge.row("the ROW stays", none, 0, 3);
        Edge.due("MINUTE stays", none.count(5), 3);
        none.keeps();
        Edge.due("kept", none.back(), 3);
        Checks.land(none, "w0=3");
        Edge.due("behind land nothing", none.back(), -2);
        none.keeps();
        Checks.land(none, "w0");
        Edge.due("behind a refused land it is", none.back(), 0);
        Edge.due("a new object", new EnginesOut().back(), -2);
    }

    private static void countIs(EnginesOut x, String quote, int what, int want) {
        Edge.says(45, quote);
        Edge.due("count(" + what + ")", x.count(what), want);
        Edge.due("of a new object", new EnginesOut().count(what), what == 12 ? 1 : 0);
    }

    private static void count() {
        // READY 2 and 4, OUT 0, 1 and 3, MOVING 5; calls at 3, 11 (LOST), 0, 1 (LATE, 4 off).
        EnginesOut x = State.rich();
        countIs(x, "What 0: STATIONS,", 0, 4);
        countIs(x, "1: ENGINES,", 1, 6);
        countIs(x, "2: READY ones (bits),", 2, 4 + 16);
        countIs(x, "3: OUT ones (bits),", 3, 1 + 2 + 8);
        countIs(x, "4: MOVING ones (bits),", 4, 32);
        countIs(x, "5: MINUTE,", 5, 7);
        countIs(x, "6: CALLS,", 6, 4);
        countIs(x, "7: LATE ones,", 7, 1);
        countIs(x, "8: LOST ones,", 8, 1);
        countIs(x, "9: MINUTES that all CALLS took (FAR),", 9, 4);
        countIs(x, "10: ENGINES moved so far,", 10, 1);
        countIs(x, "11: ROADS,", 11, 5);
        countIs(x, "12: R,", 12, -78);
        countIs(x, "13: numbers of the ROW,", 13, 2);
        countIs(x, "14: signs of THE TEXT.", 14, 4);
        Edge.says(45, "NONE for another what.");
        for (int what : new int[] {-1, 15, 16, LEAST, MOST}) {
            Edge.due("count(" + what + ")", x.count(what), -1);
        }
        Edge.due("nothing is otherwise", State.of(x), State.of(State.rich()));
    }

    private static void countAtEdges() {
        Edge.says(45, "10: ENGINES moved so far,");
        EnginesOut x = Checks.on("r0-1=1;s0,1;e0,1");
        x.limit(20);
        for (int i = 0; i < 12; i++) {
            x.swap(0, 1);
            x.pass(10);
        }
        Edge.due("more than LIMIT ever lets in an hour", x.count(10), 24);
        Edge.says(45, "11: ROADS,");
        EnginesOut y = Checks.on(EdgeTerms.fullText());
        Edge.due("many", y.count(11), 20);
        y.shuts(0, 2, true);
        Edge.due("shut ones, too", y.count(11), 20);
        Edge.says(45, "13: numbers of the ROW,");
        EnginesOut eight = Checks.on("s0,1,2,3,4,5,6,7;e0,0,0,0,0,0");
        eight.nested();
        Edge.due("nine", eight.count(13), 9);
        eight.states(0);
        Edge.due("seven", eight.count(13), 7);
        eight.greedy();
        Edge.due("eight", eight.count(13), 8);
        eight.moves(6);
        Edge.due("one", eight.count(13), 1);
        EnginesOut star = Checks.on("r0-1=9;r0-2=9;r0-3=9;r0-4=9;r0-5=9;r0-6=9;w1=1;w2=1;w3=1;w4=1;w5=1;w6=1;"
            + "s0,1,2,3,4,5,6;e0,0,0,0,0,0");
        star.moves(6);
        Edge.due("thirteen, as many as there can be", star.count(13), 13);
        Edge.due("the last", star.row(12), 6);
    }

    private static void row() {
        Edge.says(46, "Number i of the ROW.");
        EnginesOut x = Checks.on("r0-1=5;w0=10;w1=20;s0,1;e0,0,1");
        x.states(10);
        long[] due = {1, 3, 3, 0};
        for (int i = 0; i < due.length; i++) {
            Edge.due("row(" + i + ")", x.row(i), due[i]);
        }
        Edge.due("asked again", x.row(0), 1);
        EnginesOut below = Checks.on("s0;e0");
        below.spread();
        Edge.due("a number below 0", below.row(1), -1);

        Edge.says(46, "NoSuchElementException: none such.");
        for (int i : new int[] {4, 5, 12, 13, 14, -1, LEAST, MOST}) {
            Edge.due("row(" + i + ") throws", thrown(x, i), NoSuchElementException.class.getName());
        }
        Edge.due("row(3) does not", thrown(x, 3), "nothing");
        x.reached(0);
        Edge.due("row(1) of one throws", thrown(x, 1), NoSuchElementException.class.getName());
        Edge.due("row(0) does not", thrown(x, 0), "nothing");
        EnginesOut none = new EnginesOut();
        Edge.due("row(0) of none throws", thrown(none, 0), NoSuchElementException.class.getName());
        Edge.due("row(-1) of none throws", thrown(none, -1), NoSuchElementException.class.getName());
        none.cover();
        none.greedy();
        Edge.due("row(0) of none again throws", thrown(none, 0), NoSuchElementException.class.getName());
        Edge.due("all is as it was", State.of(none), "ROW  " + State.butRow(new EnginesOut()));
    }

    private static String thrown(EnginesOut x, int i) {
        try {
            x.row(i);
            return "nothing";
        } catch (RuntimeException e) {
            return e.getClass().getName();
        }
    }
}
