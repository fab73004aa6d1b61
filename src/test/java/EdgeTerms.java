import java.util.LinkedHashMap;
import java.util.Map;

/** The Terms, sentence by sentence. */
final class EdgeTerms {
    private static final int[] NO_NODES = {-1, 12, 13, Integer.MIN_VALUE, Integer.MAX_VALUE};
    /** FAR from 0: 5 to 1, 9 to 2, 15 to 3. */
    private static final String LINE = "r0-1=5;r1-2=4;r2-3=6;w0=10;w1=20;w2=30;w3=40;s0,2,3;e0,1";

    private EdgeTerms() {
    }

    /** A call, with what it should answer where that matters. */
    interface Call {
        long on(EnginesOut x);
    }

    static void run() {
        calls512();
        nodesAndRoads();
        waysOfNodes();
        stationsAndEngines();
        settings();
        modes();
        callsToNodes();
        covers();
        moves();
        movesLikeOnes();
        limit();
        regret();
        draw();
        rowAtFirst();
        callsThatAsk();
        refusedCalls();
        rowStays();
        whichComesFirst();
        signsThatCannotStand();
    }

    private static void says(String quote) {
        Edge.says(Edge.TERMS, quote);
    }

    private static void calls512() {
        Edge.says(Edge.WHAT_IT_IS, "An object is used for at most 512 calls after it has been made;");
        EnginesOut x = new EnginesOut();
        int calls = 0;
        for (int v : Checks.signs("r0-1=60;w1=1;s0;e0  ")) {
            x.sign(v);
            calls++;
        }
        Edge.due("end", x.end(18), true);
        Edge.due("land", x.land(), 4);
        calls += 2;
        int storms = 0;
        for (; calls < 510; calls++) {
            Edge.due("600 CALLS in call " + calls, x.storms(600, 1000), 600);
            storms++;
        }
        // OUT for 2 x 60 + 30: one CALL of 150 is LATE, from the first on, all others are LOST.
        Edge.due("the 511th: MINUTES that all took", x.count(9), 60 * 4 * storms);
        Edge.due("the 512th: LOST", x.count(8), 596 * storms);
    }

    private static void nodesAndRoads() {
        says("NODES 0 .. 11:");
        EnginesOut x = Checks.on("r0-11=7;w0=1;w11=2;s0,11;e0,1");
        Edge.due("far(0, 11)", x.far(0, 11), 7);
        Edge.due("node(0, 0)", x.node(0, 0), 1);
        Edge.due("node(11, 0)", x.node(11, 0), 2);
        Edge.due("reached(0)", x.reached(0), 1 | 1 << 11);
        Edge.due("pair(0, 11)", x.pair(0, 11), 0);
        Edge.due("shuts(11, 0)", x.shuts(11, 0, true), 1);
        Edge.due("call(11)", x.call(11), 1);
        Edge.due("call(0)", x.call(0), 0);
        for (int a : NO_NODES) {
            Edge.due("far(" + a + ", 0)", x.far(a, 0), -1);
            Edge.due("far(0, " + a + ")", x.far(0, a), -1);
            Edge.due("node(" + a + ", 0)", x.node(a, 0), -1);
            Edge.due("pair(" + a + ", 0)", x.pair(a, 0), -1);
            Edge.due("pair(0, " + a + ")", x.pair(0, a), -1);
            Edge.due("shuts(" + a + ", 0)", x.shuts(a, 0, false), -1);
            Edge.due("shuts(0, " + a + ")", x.shuts(0, a, false), -1);
            Edge.due("call(" + a + ")", x.call(a), -1);
        }

        says("a WEIGHT 0 .. 99 each (0 at first).");
        EnginesOut heavy = new EnginesOut();
        Edge.due("at first", heavy.node(11, 0), 0);
        Edge.due("0 and 99", Checks.land(heavy, "w0=0;w1=99;w2=00;w3=09"), 4);
        int[] weights = {0, 99, 0, 9, 0};
        for (int a = 0; a < weights.length; a++) {
            Edge.due("WEIGHT of " + a, heavy.node(a, 0), weights[a]);
        }
        Edge.due("100", Checks.land(heavy, "w4=100"), -21 - 5);
        Edge.due("all of 99", Checks.on(all("w", "=99")).spread(), 12 * 99 * 999);

        says("ROADS between two NODES, both ways,");
        EnginesOut road = Checks.on("r7-3=20;r3-5=4");
        Edge.due("there", road.far(7, 3), 20);
        Edge.due("back", road.far(3, 7), 20);
        Edge.due("over two, there", road.far(7, 5), 24);
        Edge.due("over two, back", road.far(5, 7), 24);
        Edge.due("shut as it was not told", road.shuts(3, 7, true), 1);
        Edge.due("shut there", road.far(7, 3), 999);
        Edge.due("shut back", road.far(3, 7), 999);

        says("of MINUTES 1 .. 60.");
        EnginesOut minutes = Checks.on("r0-1=1;r2-3=60;r4-5=01");
        Edge.due("1", minutes.far(0, 1), 1);
        Edge.due("60", minutes.far(2, 3), 60);
        Edge.due("01", minutes.far(4, 5), 1);
        Edge.due("0", Checks.land(minutes, "r0-1=0"), -21 - 5);
        Edge.due("61", Checks.land(minutes, "r0-1=61"), -21 - 6);
    }

    /** A line of like kind for each of the 12 nodes. */
    private static String all(String head, String tail) {
        StringBuilder text = new StringBuilder();
        for (int a = 0; a < 12; a++) {
            text.append(a == 0 ? "" : ";").append(head).append(a).append(tail);
        }
        return text.toString();
    }

    private static void waysOfNodes() {
        says("FAR of two NODES: the fewest MINUTES by ROADS that are OPEN");
        EnginesOut x = Checks.on("r0-1=10;r1-2=10;r0-2=21;r2-3=1;r1-3=12");
        Edge.due("round is shorter", x.far(0, 2), 20);
        Edge.due("over three", x.far(0, 3), 21);
        Edge.due("over two is shorter than straight", x.far(1, 3), 11);
        x.shuts(1, 2, true);
        Edge.due("straight alone", x.far(0, 2), 21);
        Edge.due("both ways of 22", x.far(0, 3), 22);
        Edge.due("straight", x.far(1, 3), 12);
        Edge.due("round", x.far(1, 2), 13);
        x.shuts(1, 2, false);
        Edge.due("OPEN again", x.far(0, 2), 20);
        StringBuilder line = new StringBuilder("r0-1=60");
        for (int a = 1; a < 11; a++) {
            line.append(";r").append(a).append("-").append(a + 1).append("=60");
        }
        Edge.due("the longest there can be", Checks.on(line.toString()).far(0, 11), 660);

        says("(999: there is no way; 0 of one to itself).");
        EnginesOut apart = Checks.on("r0-1=60;r2-3=60;s0,2;e0,1");
        Edge.due("no way", apart.far(0, 2), 999);
        Edge.due("no way back", apart.far(3, 1), 999);
        Edge.due("a NODE with no ROAD", apart.far(0, 11), 999);
        apart.shuts(0, 1, true);
        for (int a = 0; a < 12; a++) {
            Edge.due("of " + a + " to itself", apart.far(a, a), 0);
        }
        Edge.due("the ROAD is shut", apart.far(0, 1), 999);
        apart.reach(60);
        Edge.due("no REACH is so far", apart.reached(0), 1);
    }

    private static void stationsAndEngines() {
        says("STATIONS 0 .. (at most 8): unlike NODES.");
        EnginesOut x = Checks.on("s11,10,9,8,7,6,5,4;e7,0");
        for (int s = 0; s < 8; s++) {
            Edge.due("station(" + s + ")", x.station(s), 11 - s);
        }
        Edge.due("how many", x.count(0), 8);
        Edge.due("a ninth", Checks.land(x, "s11,10,9,8,7,6,5,4,3"), -21 - 18);
        Edge.due("one NODE twice", Checks.land(x, "s11,10,11"), -21 - 8);
        Edge.due("none", Checks.on("w0=1").count(0), 0);

        says("ENGINES 0 .. (at most 6): each has a POST, a STATION.");
        EnginesOut six = Checks.on("s3,4,5;e2,1,0,0,1,2");
        int[] posts = {2, 1, 0, 0, 1, 2};
        for (int e = 0; e < posts.length; e++) {
            Edge.due("POST of " + e, six.engine(e, 0), posts[e]);
        }
        Edge.due("how many", six.count(1), 6);
        Edge.due("a seventh", Checks.land(six, "s3,4,5;e2,1,0,0,1,2,0"), -21 - 19);
        Edge.due("a POST that is no STATION", Checks.land(six, "s3,4,5;e3"), -21 - 8);
        Edge.due("no ENGINES", Checks.on("s3,4,5").count(1), 0);
    }

    private static void settings() {
        says("REACH 1 .. 60 (at first 8),");
        EnginesOut x = Checks.on("r0-1=8;r0-2=9;r0-3=1;r0-4=60;s0;e0");
        Edge.due("at first", x.reached(0), 1 | 2 | 8);
        Edge.due("too small", x.reach(0), -1);
        Edge.due("too large", x.reach(61), -1);
        Edge.due("it stays", x.reached(0), 1 | 2 | 8);
        Edge.due("what it was", x.reach(1), 8);
        Edge.due("by 1", x.reached(0), 1 | 8);
        Edge.due("what it was", x.reach(60), 1);
        Edge.due("by 60", x.reached(0), 31);

        says("SERVICE 1 .. 240 (30),");
        EnginesOut y = Checks.on("s0;e0,0,0");
        y.call(0);
        Edge.due("too small", y.service(0), -1);
        Edge.due("too large", y.service(241), -1);
        Edge.due("what it was", y.service(1), 30);
        y.call(0);
        Edge.due("what it was", y.service(240), 1);
        y.call(0);
        Edge.due("by 30", y.engine(0, 2), 30);
        Edge.due("by 1", y.engine(1, 2), 1);
        Edge.due("by 240", y.engine(2, 2), 240);
        Edge.due("what it was", y.service(240), 240);

        says("MINUTE (0).");
        Edge.due("at first", new EnginesOut().count(5), 0);
        Edge.due("at first, kept", new EnginesOut().keeps(), 0);
    }

    private static void modes() {
        says("An ENGINE is READY (at its POST), MOVING (to its POST: READY at a MINUTE), or OUT (at a call: READY at a MINUTE,"
            + " too, its way back to its POST counted).");
        EnginesOut x = Checks.on(LINE + ",2");
        Edge.due("READY", x.count(2), 7);
        x.call(3);
        x.post(0, 1);
        Edge.due("READY", x.count(2), 2);
        Edge.due("MOVING", x.count(4), 1);
        Edge.due("OUT", x.count(3), 4);
        Edge.due("POST while MOVING is the new one", x.engine(0, 0), 1);
        Edge.due("POST while OUT", x.engine(2, 0), 2);
        x.pass(8);
        Edge.due("MOVING", x.engine(0, 1), 1);
        x.pass(1);
        Edge.due("there", x.engine(0, 1), 0);
        x.pass(20);
        Edge.due("OUT at 29", x.engine(2, 1), 2);
        x.pass(1);
        Edge.due("READY at 30", x.engine(2, 1), 0);
        Edge.due("POST as it was", x.engine(2, 0), 2);
    }

    private static void callsToNodes() {
        says("A CALL at a NODE: of READY ENGINES with a way that one goes whose POST is least FAR from it, of like ones the least;");
        EnginesOut x = Checks.on("r0-1=5;r1-2=5;r2-3=1;s0,2,3,9;e3,2,1,0,1");
        Edge.due("5 from 0 and from 2, the least ENGINE", x.call(1), 2);
        Edge.due("3 has as far as 4", x.call(1), 3);
        Edge.due("then 4", x.call(1), 4);
        Edge.due("then 1, 6 off", x.call(1), 1);
        Edge.due("0 has no way", x.call(1), -2);
        Edge.due("0 has one there", x.call(9), 0);

        says("it is OUT: READY again at MINUTE + 2 times that FAR + SERVICE.");
        EnginesOut y = Checks.on("r0-1=7;s0;e0");
        y.service(11);
        y.pass(100);
        y.call(1);
        Edge.due("OUT", y.engine(0, 1), 2);
        Edge.due("in 25", y.engine(0, 2), 25);
        Edge.due("not in 24", y.pass(24), 0);
        Edge.due("OUT", y.engine(0, 1), 2);
        Edge.due("in 25", y.pass(1), 1);
        Edge.due("READY", y.engine(0, 1), 0);
        y.service(240);
        y.call(0);
        y.service(1);
        Edge.due("SERVICE as it was when it went", y.engine(0, 2), 240);

        says("A CALL that no ENGINE goes to is LOST;");
        EnginesOut lost = Checks.on("s0;e0");
        lost.call(1);
        Edge.due("no way", lost.count(8), 1);
        lost.call(0);
        Edge.due("one goes", lost.count(8), 1);
        lost.call(0);
        Edge.due("none READY", lost.count(8), 2);
        Edge.due("not LATE", lost.count(7), 0);
        EnginesOut none = new EnginesOut();
        none.call(0);
        Edge.due("no ENGINES", none.count(8), 1);

        says("one to which it takes more than REACH is LATE.");
        EnginesOut late = Checks.on("r0-1=8;r0-2=9;s0;e0,0,0");
        late.call(1);
        Edge.due("REACH itself", late.count(7), 0);
        late.call(2);
        Edge.due("one more", late.count(7), 1);
        late.reach(9);
        late.call(2);
        Edge.due("REACH itself", late.count(7), 1);
    }

    private static void covers() {
        says("REACHED is a NODE by a STATION that is not farther from it than REACH.");
        EnginesOut x = Checks.on("r0-1=8;r0-2=7;r0-3=9;s0;e0");
        Edge.due("8 and 7, not 9", x.reached(0), 7);
        Edge.due("8", x.node(1, 1), 1);
        Edge.due("9", x.node(3, 1), 0);

        says("COVER of ENGINES at STATIONS: WEIGHTS of all NODES REACHED by some of these STATIONS;");
        EnginesOut y = Checks.on("r0-1=8;r1-2=8;w0=1;w1=10;w2=50;w5=3;s0,2,5;e0,0,1,1");
        Edge.due("a NODE REACHED by two counts once", y.cover(), 61);
        Edge.due("of none", y.covers(0), 0);
        Edge.due("of one", y.covers(2), 60);
        Edge.due("of all", y.covers(7), 64);

        says("DOUBLE: of those REACHED by two or more ENGINES (two at one STATION count twice).");
        Edge.due("two at each", y.state(0), 61);
        Edge.row("all of it", y, 61);
        Edge.due("one at 0, two at 2", y.state(1), 61);
        Edge.row("NODE 0 by one alone", y, 60);
        Edge.due("one at each", y.state(5), 61);
        Edge.row("NODE 1 alone", y, 10);
        Edge.due("two at 0", y.state(12), 11);
        Edge.row("two at one STATION", y, 11);
        Edge.due("one", y.state(7), 60);
        Edge.row("one is no DOUBLE", y, 0);

        says("NOW: of READY ENGINES at their POSTS.");
        EnginesOut z = Checks.on("r0-1=9;w0=1;w1=10;w5=50;s0,1,5;e0,2,2");
        Edge.due("all", z.cover(), 51);
        z.call(5);
        Edge.due("one of two is OUT", z.cover(), 51);
        z.call(5);
        Edge.due("both are OUT", z.cover(), 1);
        z.post(0, 1);
        Edge.due("MOVING", z.cover(), 0);
        z.pass(9);
        Edge.due("there", z.cover(), 10);
    }

    private static void moves() {
        says("MOVES of n: READY ENGINES, n at most, get other POSTS (STATIONS to which there is a way; several ENGINES may stand"
            + " at one), and count as if they were there:");
        EnginesOut x = Checks.on("r0-1=9;r0-2=9;w0=1;w1=10;w2=20;w5=50;s0,1,2,5;e0,0,0");
        Edge.due("none may", x.moves(0), 1);
        Edge.row("none", x, 0);
        Edge.due("one", x.moves(1), 21);
        Edge.row("the last, as the first row has 0, 0 ahead", x, 9, 2, 2);
        Edge.due("two", x.moves(2), 31);
        Edge.row("two", x, 18, 1, 1, 2, 2);
        Edge.due("a third has nowhere to go that is worth it", x.moves(3), 31);
        Edge.row("two", x, 18, 1, 1, 2, 2);
        x.call(0);
        Edge.due("those READY alone", x.moves(6), 30);
        Edge.row("two", x, 18, 1, 1, 2, 2);
        // The one NODE with WEIGHT is reached from where the other stands already: both may stand there.
        EnginesOut y = Checks.on("r0-1=9;w1=7;s0,1;e0,1");
        y.call(1);
        y.pass(29);
        y.post(0, 1);
        y.pass(9);
        Edge.due("both at one", y.cover(), 7);
        Edge.due("and none moves", y.moves(6), 7);
        Edge.row("none", y, 0);

        says("of all ways to do so that with the greatest COVER,");
        EnginesOut far = Checks.on("r0-1=60;r1-2=60;r2-3=60;w0=5;w1=4;w3=6;s0,1,3;e0,1");
        Edge.due("1 goes to 3 for 2 more, 120 off", far.moves(1), 11);
        Edge.row("1 to 3", far, 120, 1, 2);
        // NODE 11 is reached from 4 alone; who goes there from 0 leaves 8, which 5 reaches, and so on: all four or none.
        EnginesOut all = Checks.on("r0-4=5;r1-5=5;r2-6=5;r3-7=5;r0-8=5;r5-8=5;r1-9=5;r6-9=5;r2-10=5;r7-10=5;r4-11=5;"
            + "w0=9;w1=9;w2=9;w3=9;w4=9;w5=9;w6=9;w7=9;w8=9;w9=9;w10=9;w11=1;s0,1,2,3,4,5,6,7;e0,1,2,3");
        Edge.due("three are not enough", all.moves(3), 99);
        Edge.row("none", all, 0);
        Edge.due("four, for one more", all.moves(4), 100);
        Edge.row("four", all, 20, 0, 4, 1, 5, 2, 6, 3, 7);
    }

    private static void movesLikeOnes() {
        says("of these the fewest ENGINES that move,");
        EnginesOut x = Checks.on("r0-1=10;r1-2=10;r0-2=50;r0-3=1;w1=5;w2=7;s3,1,2;e0,1");
        x.reach(1);
        Edge.due("12 by one of 21, or by two of 11 and 10", x.moves(2), 12);
        Edge.row("one", x, 21, 0, 2);
        EnginesOut stay = Checks.on("r0-1=1;w0=5;s0,1;e0,0");
        Edge.due("COVER is no greater", stay.moves(6), 5);
        Edge.row("none", stay, 0);

        says("then the fewest MINUTES (FAR from their old POSTS to the new ones, together),");
        EnginesOut y = Checks.on("r0-1=30;r1-2=29;w1=9;s0,1,2;e0,2,0");
        Edge.due("from 0 or from 2", y.moves(1), 9);
        Edge.row("the one that is 29 off", y, 29, 1, 1);
        // 0 to 2 and 1 to 3, or 0 to 3 and 1 to 2.
        EnginesOut z = Checks.on("r0-2=20;r1-3=20;r0-3=10;r1-2=31;w2=9;w3=9;s0,1,2,3;e0,1");
        Edge.due("two go", z.moves(2), 18);
        Edge.row("20 + 20, not 10 + 31", z, 40, 0, 2, 1, 3);
        EnginesOut turned = Checks.on("r0-2=20;r1-3=20;r0-3=10;r1-2=29;w2=9;w3=9;s0,1,2,3;e0,1");
        Edge.due("two go", turned.moves(2), 18);
        Edge.row("10 + 29, not 20 + 20", turned, 39, 0, 3, 1, 2);

        says("then the first row of POSTS, by READY ENGINES, the least first.");
        EnginesOut like = Checks.on("r0-1=9;r0-2=9;w1=5;w2=5;s0,1,2;e0,0,0");
        Edge.due("to 1 or to 2", like.moves(1), 5);
        Edge.row("0 0 1", like, 9, 2, 1);
        Edge.due("two", like.moves(2), 10);
        Edge.row("0 1 2", like, 18, 1, 1, 2, 2);
        like.call(0);
        Edge.due("two", like.moves(2), 10);
        Edge.row("0 is OUT: 1 2 of the others", like, 18, 1, 1, 2, 2);
        EnginesOut down = Checks.on("r0-1=9;r0-2=9;w1=5;w2=5;s1,2,0;e2,2,2");
        Edge.due("to 0 or to 1", down.moves(1), 5);
        Edge.row("0 2 2", down, 9, 0, 0);
    }

    private static void limit() {
        says("An ENGINE that moves is READY again at MINUTE + its FAR.");
        EnginesOut x = Checks.on("r0-1=20;w0=1;w1=9;s0,1;e0");
        x.pass(50);
        x.up(1);
        Edge.due("in 20", x.engine(0, 2), 20);
        Edge.due("not in 19", x.pass(19), 0);
        Edge.due("MOVING", x.count(4), 1);
        Edge.due("in 20", x.pass(1), 1);
        Edge.due("READY", x.count(2), 1);

        says("LIMIT 0 .. 20 (6):");
        EnginesOut y = Checks.on("r0-1=1;s0,1;e0");
        Edge.due("at first", y.left(), 6);
        Edge.due("too small", y.limit(-1), -1);
        Edge.due("too large", y.limit(21), -1);
        Edge.due("it stays", y.left(), 6);
        Edge.due("what it was", y.limit(0), 6);
        Edge.due("none may", y.post(0, 1), -4);
        Edge.due("what it was", y.limit(20), 0);
        Edge.due("20 may", y.left(), 20);
        for (int i = 0; i < 20; i++) {
            Edge.due("one of 20 in 20 MINUTES", y.post(0, 1 - i % 2), 1);
            y.pass(1);
        }
        Edge.due("the 21st", y.post(0, 1), -4);

        says("at most so many ENGINES may move in 60 MINUTES: those that began to at MINUTE - 59 or later count.");
        EnginesOut z = Checks.on("r0-1=1;s0,1;e0,0");
        z.limit(1);
        z.pass(600);
        z.post(0, 1);
        z.pass(59);
        Edge.due("59 later", z.post(1, 1), -4);
        Edge.due("59 later", z.left(), 0);
        z.pass(1);
        Edge.due("60 later", z.left(), 1);
        Edge.due("60 later", z.post(1, 1), 1);
        z.limit(2);
        Edge.due("one more", z.post(0, 0), 1);
        Edge.due("no third", z.left(), 0);
    }

    private static void regret() {
        says("REGRET: the greatest COVER that as many ENGINES as are READY could have at any STATIONS, less COVER NOW.");
        EnginesOut x = Checks.on("w0=1;w1=2;w2=4;s0,1,2;e0,0");
        Edge.due("6 less 1, with no way to go", x.regret(), 5);
        x.call(0);
        Edge.due("4 less 1", x.regret(), 3);
        x.call(0);
        Edge.due("none READY", x.regret(), 0);
        Edge.due("as good as can be", Checks.on("w0=1;w1=2;w2=4;s0,1,2;e2,1").regret(), 0);
        Edge.due("more ENGINES than STATIONS", Checks.on("w0=1;w1=2;w2=4;s0,1,2;e2,1,1,1,1").regret(), 1);
    }

    private static void draw() {
        says("A DRAW of n: R = R times 1103515245 + 12345 (as ints; R at first 1), (R without sign, by 65536) % n.");
        Edge.due("R at first", new EnginesOut().count(12), 1);
        int[] seeds = {1, 0, -1, Integer.MIN_VALUE, Integer.MAX_VALUE, 2, 12345, -12345, 1 << 16, 1103515245};
        int below0 = 0;
        for (int seed : seeds) {
            long r = (seed & 0xffffffffL) * 1103515245L + 12345 & 0xffffffffL;
            below0 += (int) r < 0 ? 1 : 0;
            long lot = r / 65536 % 1000;
            EnginesOut x = Checks.on("w0=1;s0;e0");
            x.seed(seed);
            Edge.due("a CALL if " + lot + " is less", x.storms(1, (int) lot), 0);
            Edge.due("R behind " + seed, x.count(12), (int) r);
            x.seed(seed);
            Edge.due("a CALL if " + lot + " is less", x.storms(1, (int) lot + 1), 1);
            Edge.due("R behind two", x.count(12), (int) (r * 1103515245L + 12345));
        }
        Edge.due("some R were below 0, some not", below0 > 0 && below0 < seeds.length, true);
        EnginesOut one = Checks.on("w0=1;s0;e0");
        one.storms(600, 0);
        int r = 1;
        for (int i = 0; i < 600; i++) {
            r = r * 1103515245 + 12345;
        }
        Edge.due("600 of them", one.count(12), r);
    }

    private static void rowAtFirst() {
        says("ROW of numbers: told last by a call that says so; at first it has none.");
        EnginesOut x = new EnginesOut();
        Edge.row("at first", x);
        Checks.land(x, LINE);
        Edge.row("behind land", x);
        x.cover();
        Edge.row("two", x, 20, 100);
        x.reached(0);
        Edge.row("one in place of two", x, 30);
        x.nested();
        Edge.row("four in place of one", x, 0, 2, 3, 7);
        x.call(0);
        Edge.row("two in place of four", x, 0, 0);
        EnginesOut none = new EnginesOut();
        none.cover();
        none.greedy();
        Edge.row("none in place of two", none);
    }

    private static Map<String, Call> asks() {
        Map<String, Call> asks = new LinkedHashMap<>();
        asks.put("far", x -> x.far(0, 3));
        asks.put("reached", x -> x.reached(1));
        asks.put("node 1", x -> x.node(1, 1));
        asks.put("node 3", x -> x.node(1, 3));
        asks.put("engine", x -> x.engine(0, 2));
        asks.put("station", x -> x.station(0));
        asks.put("pair", x -> x.pair(0, 8));
        asks.put("pair, -2", x -> x.pair(0, 11));
        asks.put("worstPair", EnginesOut::worstPair);
        asks.put("cover", EnginesOut::cover);
        asks.put("covers", x -> x.covers(5));
        asks.put("share", EnginesOut::share);
        asks.put("best", x -> x.best(3));
        asks.put("nested", EnginesOut::nested);
        asks.put("greedy", EnginesOut::greedy);
        asks.put("dearest", EnginesOut::dearest);
        asks.put("dearestRoad", EnginesOut::dearestRoad);
        asks.put("least", x -> x.least(50));
        asks.put("twice", x -> x.twice(2));
        asks.put("spread", EnginesOut::spread);
        asks.put("state", x -> x.state(3));
        asks.put("worst", x -> x.worst(2));
        asks.put("states", x -> x.states(50));
        asks.put("expects", x -> x.expects(300));
        asks.put("bestFor", x -> x.bestFor(300));
        asks.put("regret", EnginesOut::regret);
        asks.put("moves", x -> x.moves(6));
        asks.put("left", EnginesOut::left);
        asks.put("needs", EnginesOut::needs);
        asks.put("count", x -> x.count(13));
        asks.put("row", x -> x.row(0));
        return asks;
    }

    private static void callsThatAsk() {
        says("Calls that ask change nothing but the ROW.");
        String before = State.butRow(State.rich());
        for (Map.Entry<String, Call> ask : asks().entrySet()) {
            EnginesOut x = State.rich();
            long first = ask.getValue().on(x);
            Edge.due(ask.getKey() + " asked again", ask.getKey().equals("row") ? x.row(0) : ask.getValue().on(x),
                ask.getKey().equals("count") ? 2 : first);
            Edge.due("all behind " + ask.getKey(), State.butRow(x), before);
        }
    }

    /** Calls that are refused in State.rich(), where engines 2 and 4 are READY. */
    private static Map<String, Call> refused() {
        Map<String, Call> calls = new LinkedHashMap<>();
        calls.put("reach(0)", x -> x.reach(0));
        calls.put("reach(61)", x -> x.reach(61));
        calls.put("service(0)", x -> x.service(0));
        calls.put("service(241)", x -> x.service(241));
        calls.put("limit(-1)", x -> x.limit(-1));
        calls.put("limit(21)", x -> x.limit(21));
        calls.put("shuts(12, 0)", x -> x.shuts(12, 0, true));
        calls.put("far(0, 12)", x -> x.far(0, 12));
        calls.put("reached(4)", x -> x.reached(4));
        calls.put("reached(-1)", x -> x.reached(-1));
        calls.put("node(12, 0)", x -> x.node(12, 0));
        calls.put("node(0, 4)", x -> x.node(0, 4));
        calls.put("engine(6, 0)", x -> x.engine(6, 0));
        calls.put("engine(0, 3)", x -> x.engine(0, 3));
        calls.put("station(4)", x -> x.station(4));
        calls.put("call(12)", x -> x.call(12));
        calls.put("call(-1)", x -> x.call(-1));
        calls.put("pair(12, 0)", x -> x.pair(12, 0));
        calls.put("pass(0)", x -> x.pass(0));
        calls.put("pass(601)", x -> x.pass(601));
        calls.put("storms(0, 500)", x -> x.storms(0, 500));
        calls.put("storms(601, 500)", x -> x.storms(601, 500));
        calls.put("storms(5, -1)", x -> x.storms(5, -1));
        calls.put("storms(5, 1001)", x -> x.storms(5, 1001));
        calls.put("covers(16)", x -> x.covers(16));
        calls.put("covers(-1)", x -> x.covers(-1));
        calls.put("best(5)", x -> x.best(5));
        calls.put("best(-1)", x -> x.best(-1));
        calls.put("least(-1)", x -> x.least(-1));
        calls.put("twice(5)", x -> x.twice(5));
        calls.put("state(64)", x -> x.state(64));
        calls.put("state(-1)", x -> x.state(-1));
        calls.put("worst(7)", x -> x.worst(7));
        calls.put("worst(-1)", x -> x.worst(-1));
        calls.put("states(-1)", x -> x.states(-1));
        calls.put("expects(1001)", x -> x.expects(1001));
        calls.put("bestFor(-1)", x -> x.bestFor(-1));
        calls.put("moves(7)", x -> x.moves(7));
        calls.put("moves(-1)", x -> x.moves(-1));
        calls.put("up(7)", x -> x.up(7));
        calls.put("up(-1)", x -> x.up(-1));
        calls.put("post(6, 0)", x -> x.post(6, 0));
        calls.put("post(2, 4)", x -> x.post(2, 4));
        calls.put("swap(2, 2)", x -> x.swap(2, 2));
        calls.put("swap(2, 6)", x -> x.swap(2, 6));
        calls.put("count(15)", x -> x.count(15));
        return calls;
    }

    /** Calls that answer below -1 in State.rich() and change nothing. */
    private static Map<String, Call> others() {
        Map<String, Call> calls = new LinkedHashMap<>();
        calls.put("-2 of shuts", x -> x.shuts(0, 2, true));
        calls.put("-3 of shuts", x -> x.shuts(4, 3, true));
        calls.put("-3 of shuts, OPEN", x -> x.shuts(0, 1, false));
        calls.put("-2 of pair", x -> x.pair(8, 9));
        calls.put("-2 of least", x -> x.least(111));
        calls.put("-2 of post", x -> x.post(0, 1));
        calls.put("-3 of post", x -> x.post(2, 1));
        calls.put("-3 of post, no way", x -> x.post(2, 3));
        calls.put("-2 of swap", x -> x.swap(2, 5));
        calls.put("-3 of swap", x -> x.swap(2, 4));
        return calls;
    }

    private static void refusedCalls() {
        says("Refused calls answer NONE, or false, and change nothing but THE TEXT,");
        String before = State.of(State.rich());
        for (Map.Entry<String, Call> call : refused().entrySet()) {
            EnginesOut x = State.rich();
            Edge.due(call.getKey(), call.getValue().on(x), -1);
            Edge.due("all behind " + call.getKey(), State.of(x), before);
        }
        for (int n : new int[] {-1, 5, Integer.MIN_VALUE, Integer.MAX_VALUE}) {
            EnginesOut x = State.rich();
            Edge.due("end(" + n + ")", x.end(n), false);
            Edge.due("all behind end(" + n + ")", State.of(x), before);
        }
        EnginesOut full = State.rich();
        EnginesOut twin = State.rich();
        for (int i = 0; i < 74; i++) {
            full.sign(0x3b773d31);
            twin.sign(0x3b773d31);
        }
        Edge.due("sign of a full text", full.sign(0x3b773d31), -1);
        Edge.due("all behind sign", State.of(full), State.of(twin));

        says("which a call that can read it empties, whatever it answers.");
        EnginesOut x = State.rich();
        Edge.due("four signs", x.count(14), 4);
        x.sign(0x3b3b3b3b);
        Edge.due("land refuses", x.land(), -21 - 5);
        Edge.due("empty", x.count(14), 0);
        EnginesOut emptied = State.rich();
        emptied.end(0);
        Edge.due("all else stays", State.of(x), State.of(emptied));
        EnginesOut y = State.rich();
        Edge.due("land reads", y.land(), 1);
        Edge.due("empty", y.count(14), 0);
        Edge.due("the next begins anew", y.sign(0x77303d31), 4);
        Edge.due("and is read alone", y.land(), 1);
        Edge.due("WEIGHT", y.node(0, 0), 1);
    }

    private static void rowStays() {
        says("The ROW stays with each answer below 0, but where a call says otherwise, and with calls that do not tell of it.");
        String before = State.of(State.rich());
        for (Map.Entry<String, Call> call : others().entrySet()) {
            EnginesOut x = State.rich();
            Edge.due(call.getKey(), call.getValue().on(x), -call.getKey().charAt(1) + '0');
            Edge.due("all behind " + call.getKey(), State.of(x), before);
        }
        Map<String, Call> silent = new LinkedHashMap<>();
        silent.put("sign", x -> x.sign(0));
        silent.put("end", x -> x.end(2) ? 1 : 0);
        silent.put("land", EnginesOut::land);
        silent.put("reach", x -> x.reach(4));
        silent.put("service", x -> x.service(4));
        silent.put("limit", x -> x.limit(4));
        silent.put("shuts", x -> x.shuts(3, 4, false));
        silent.put("far", x -> x.far(0, 3));
        silent.put("node", x -> x.node(0, 1) + x.node(0, 2) + x.node(0, 3));
        silent.put("engine", x -> x.engine(0, 0));
        silent.put("station", x -> x.station(0));
        silent.put("call, LOST", x -> x.call(11));
        silent.put("pass", x -> x.pass(60));
        silent.put("seed", x -> x.seed(5));
        silent.put("share", EnginesOut::share);
        silent.put("expects", x -> x.expects(500));
        silent.put("post", x -> x.post(2, 0));
        silent.put("swap", x -> x.pass(60) + x.swap(1, 0));
        silent.put("needs", EnginesOut::needs);
        silent.put("keeps", EnginesOut::keeps);
        silent.put("back", EnginesOut::back);
        silent.put("count", x -> x.count(3));
        silent.put("row", x -> Checks.hasNumber(x, 2) ? 1 : 0);
        for (Map.Entry<String, Call> call : silent.entrySet()) {
            EnginesOut x = State.rich();
            call.getValue().on(x);
            Edge.row("behind " + call.getKey(), x, 0, 110);
        }
        EnginesOut worst = State.rich();
        Edge.due("worstPair", worst.worstPair(), -2);
        Edge.row("worstPair says otherwise", worst, 0, 0);
    }

    private static void whichComesFirst() {
        says("Of several answers below 0 that fit: -21 - p comes first, then NONE, then the others as they are told.");
        EnginesOut x = State.rich();
        Edge.due("a refused text and no land", x.sign(0x20202020) == 8 ? x.land() : 0, -21 - 4);
        Edge.due("shuts: no such NODE, no ROAD", x.shuts(0, 12, true), -1);
        Edge.due("shuts: no ROAD, OPEN as all are", x.shuts(0, 2, false), -2);
        Edge.due("call: no such NODE", x.call(12), -1);
        Edge.due("CALLS", x.count(6), 4);
        Edge.due("pair: no such NODE, no two", x.pair(11, 12), -1);
        Edge.due("post: no such STATION, not READY", x.post(0, 4), -1);
        Edge.due("post: not READY, its POST", x.post(0, 0), -2);
        Edge.due("post: not READY, no way", x.post(0, 3), -2);
        Edge.due("swap: one and the same, not READY", x.swap(0, 0), -1);
        Edge.due("swap: no such, not READY", x.swap(0, 6), -1);
        Edge.due("swap: not READY, one POST is both", x.swap(1, 2), -2);
        Edge.due("swap: not READY, no way", x.swap(4, 1), -2);
        x.limit(0);
        Edge.due("post: no such, LIMIT", x.post(2, -1), -1);
        Edge.due("post: not READY, LIMIT", x.post(0, 1), -2);
        Edge.due("post: its POST, LIMIT", x.post(2, 1), -3);
        Edge.due("post: no way, LIMIT", x.post(2, 3), -3);
        Edge.due("post: LIMIT", x.post(2, 0), -4);
        Edge.due("swap: one and the same, LIMIT", x.swap(2, 2), -1);
        Edge.due("swap: not READY, LIMIT", x.swap(2, 0), -2);
        Edge.due("swap: no way, LIMIT", x.swap(2, 4), -3);
        EnginesOut none = new EnginesOut();
        Edge.due("bestFor: another p, no STATIONS", none.bestFor(1001), -1);
        Edge.due("pair: no such NODE, no ENGINES", none.pair(0, -1), -1);
        Edge.due("least: below 0", none.least(-1), -1);

        says("NONE: no such NODE, STATION, ENGINE, too.");
        EnginesOut y = State.rich();
        for (int a : NO_NODES) {
            Edge.due("NODE " + a, y.far(a, a), -1);
            Edge.due("NODE " + a, y.shuts(a, a, true), -1);
            Edge.due("NODE " + a, y.pair(a, a), -1);
            Edge.due("NODE " + a, y.node(a, 3), -1);
            Edge.due("NODE " + a, y.call(a), -1);
        }
        for (int s : new int[] {-1, 4, 8, Integer.MIN_VALUE, Integer.MAX_VALUE}) {
            Edge.due("STATION " + s, y.station(s), -1);
            Edge.due("STATION " + s, y.reached(s), -1);
            Edge.due("STATION " + s, y.post(2, s), -1);
        }
        for (int e : new int[] {-1, 6, 7, Integer.MIN_VALUE, Integer.MAX_VALUE}) {
            Edge.due("ENGINE " + e, y.engine(e, 1), -1);
            Edge.due("ENGINE " + e, y.post(e, 0), -1);
            Edge.due("ENGINE " + e, y.swap(e, 2), -1);
            Edge.due("ENGINE " + e, y.swap(2, e), -1);
        }
        EnginesOut few = Checks.on("s0,1;e0");
        Edge.due("an ENGINE of another land", few.engine(1, 0), -1);
        Edge.due("a STATION of another land", few.station(2), -1);
    }

    private static void signsThatCannotStand() {
        says("-21 - p: the sign at p of THE TEXT can't stand there: the first sign with which no text as told can begin so far"
            + " (p is the number of its signs, if it ends too early).");
        String whole = "r0-11=60;w11=99;s10,2;e1,0";
        // Lines of what is a land already, by how many signs it has.
        Map<Integer, Integer> lands = Map.of(7, 1, 8, 1, 14, 2, 15, 2, 18, 3, 19, 3, 21, 3, 24, 4);
        for (int n = 1; n < whole.length(); n++) {
            String text = whole.substring(0, n);
            Edge.due("the first " + n + " of " + whole, Checks.land(new EnginesOut(), text), lands.getOrDefault(n, -21 - n));
            Edge.due("a blank behind " + text, Checks.land(new EnginesOut(), text + " "), -21 - n);
            Edge.due("a sign of 255 behind " + text, Checks.land(new EnginesOut(), text + "\u00ff1=1"), -21 - n);
            Edge.due("a sign of 0 behind " + text, Checks.land(new EnginesOut(), text + "\0"), -21 - n);
        }
        Edge.due("at 0", Checks.land(new EnginesOut(), "x"), -21);
        StringBuilder full = new StringBuilder(fullText());
        Edge.due("300 signs stand", Checks.land(new EnginesOut(), full.toString()), 31);
        full.setCharAt(299, ',');
        Edge.due("the last of 300", Checks.land(new EnginesOut(), full.toString()), -21 - 299);
        full.setCharAt(299, ';');
        Edge.due("300 signs that end too early", Checks.land(new EnginesOut(), full.toString()), -21 - 300);
    }

    /** A land of 31 lines that takes 300 signs. */
    static String fullText() {
        StringBuilder text = new StringBuilder("s00,01,02,03,04,05,06,07;e00,00,00,00,00,07");
        for (int i = 0; i < 20; i++) {
            text.append(";r0").append(i / 10).append(i % 10 < 8 ? "-0" : "-1").append((2 + i % 10) % 10).append("=05");
        }
        for (int a = 0; a < 9; a++) {
            text.append(a < 3 ? ";w0" : ";w").append(a).append("=10");
        }
        text.setCharAt(299, '7');
        return text.toString();
    }
}
