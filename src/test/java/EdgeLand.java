/** Promises 1 to 13, sentence by sentence. */
final class EdgeLand {
    private static final int LEAST = Integer.MIN_VALUE;
    private static final int MOST = Integer.MAX_VALUE;
    private static final String LINE = "r0-1=5;r1-2=4;r2-3=6;w0=10;w1=20;w2=30;w3=40;s0,2,3;e0,1";

    private EdgeLand() {
    }

    static void run() {
        newObject();
        sign();
        end();
        landInPlace();
        landLines();
        landStationsAndEngines();
        landNumbers();
        landAnew();
        landFaults();
        settings();
        shuts();
        farAndReached();
        node();
        engine();
        station();
    }

    private static void newObject() {
        Edge.says(1, "No ROADS, STATIONS, ENGINES.");
        EnginesOut x = new EnginesOut();
        int[] counts = {0, 0, 0, 0, 0, 0, 0, 0, 0, 0, 0, 0, 1, 0, 0};
        for (int what = 0; what < counts.length; what++) {
            Edge.due("count(" + what + ")", x.count(what), counts[what]);
        }
        Edge.due("no STATION", x.station(0), -1);
        Edge.due("no ENGINE", x.engine(0, 0), -1);
        Edge.due("no ROAD", x.shuts(0, 1, true), -2);
        for (int a = 0; a < 12; a++) {
            Edge.due("to itself", x.far(a, a), 0);
            Edge.due("to the next", x.far(a, (a + 1) % 12), 999);
        }
        Edge.due("all that can be asked is as behind an empty land", State.of(x), State.of(Checks.on("")));
    }

    private static void sign() {
        Edge.says(2, "Four signs come behind THE TEXT, of v the highest byte first: how many it has.");
        EnginesOut x = new EnginesOut();
        Edge.due("w9=7", x.sign(0x77393d37), 4);
        Edge.due("5;s3, behind it", x.sign(0x353b7333), 8);
        Edge.due("count(14)", x.count(14), 8);
        Edge.due("two LINES", x.land(), 2);
        Edge.due("WEIGHT", x.node(9, 0), 75);
        Edge.due("STATION", x.station(0), 3);
        Edge.due("the first sign is above 127", x.sign(0xf7393d37), 4);
        Edge.due("and is no w", x.land(), -21);
        Edge.due("behind end", x.sign(0x77392020) == 4 && x.end(2) ? x.sign(0x3d373520) : 0, 6);
        Edge.due("and its last", x.end(5) ? x.land() : 0, 1);
        Edge.due("WEIGHT", x.node(9, 0), 75);

        Edge.says(2, "Refused: there would be more than 300.");
        for (int n = 296; n <= 300; n++) {
            EnginesOut full = new EnginesOut();
            for (int i = 1; i <= 75; i++) {
                Edge.due("sign " + i, full.sign(0x77393d37), 4 * i);
            }
            full.end(n);
            Edge.due("behind " + n, full.sign(-1), n == 296 ? 300 : -1);
            Edge.due("signs", full.count(14), n == 296 ? 300 : n);
        }
        EnginesOut whole = new EnginesOut();
        for (int v : Checks.signs(EdgeTerms.fullText())) {
            whole.sign(v);
        }
        Edge.due("refused", whole.sign(0), -1);
        Edge.due("refused again", whole.sign(0x20202020), -1);
        Edge.due("THE TEXT is as it was", whole.land(), 31);
        Edge.due("its last WEIGHT", whole.node(8, 0), 17);
        Edge.due("emptied, there is room", whole.sign(0), 4);
    }

    private static void end() {
        Edge.says(3, "THE TEXT has its first n signs alone: true;");
        EnginesOut x = new EnginesOut();
        Edge.due("none of none", x.end(0), true);
        Checks.type(x, "w1=23;s4");
        Edge.due("all", x.end(8), true);
        Edge.due("8", x.count(14), 8);
        Edge.due("the first 4", x.end(4), true);
        Edge.due("4", x.count(14), 4);
        Edge.due("the others are gone", x.end(5), false);
        Edge.due("w1=2", x.land(), 1);
        Edge.due("WEIGHT", x.node(1, 0), 2);
        Checks.type(x, "w1=23;s4");
        Edge.due("none of 8", x.end(0), true);
        Edge.due("none", x.count(14), 0);
        Edge.due("an empty land", x.land(), 0);

        Edge.says(3, "false if it has not so many, or n is below 0.");
        int[][] cases = {{0, 1}, {0, MOST}, {0, -1}, {8, 9}, {8, 300}, {8, MOST}, {8, -1}, {8, -8}, {8, LEAST}, {300, 301}};
        for (int[] c : cases) {
            EnginesOut y = new EnginesOut();
            for (int i = 0; i < c[0] / 4; i++) {
                y.sign(0x77393d37);
            }
            Edge.due("end(" + c[1] + ") of " + c[0], y.end(c[1]), false);
            Edge.due("it stays", y.count(14), c[0]);
        }
    }

    private static void landInPlace() {
        Edge.says(4, "THE TEXT tells the land, in place of the one there was:");
        EnginesOut x = Checks.on(LINE);
        Edge.due("another", Checks.land(x, "r4-5=6;w7=8;s9,10,11;e2"), 4);
        EnginesOut fresh = Checks.on("r4-5=6;w7=8;s9,10,11;e2");
        Edge.due("all is as on a new object", State.of(x), State.of(fresh));

        Edge.says(4, "LINES with ; between, an empty text: none:");
        EnginesOut y = Checks.on(LINE);
        Edge.due("an empty text", Checks.land(y, ""), 0);
        Edge.due("no land is left", State.of(y), State.of(new EnginesOut()));
        Edge.due("one", Checks.land(y, "w0=1"), 1);
        Edge.due("two", Checks.land(y, "w0=1;w1=1"), 2);
        Edge.due("a ; ahead", Checks.land(y, ";w0=1"), -21);
        Edge.due("a ; behind", Checks.land(y, "w0=1;"), -21 - 5);
        Edge.due("two ; between", Checks.land(y, "w0=1;;w1=1"), -21 - 5);
        Edge.due("no ; between", Checks.land(y, "w0=1w1=1"), -21 - 4);
        Edge.due("a , between", Checks.land(y, "w0=1,w1=1"), -21 - 4);
        Edge.due("a ; alone", Checks.land(y, ";"), -21);
    }

    private static void stands(String text, int lines) {
        EnginesOut x = new EnginesOut();
        Edge.due(text, Checks.land(x, text), lines);
    }

    /** THE TEXT is refused at p, and is empty. */
    private static void fault(String text, int p) {
        EnginesOut x = new EnginesOut();
        Edge.due(text, Checks.land(x, text), -21 - p);
        Edge.due("emptied: " + text, x.count(14), 0);
    }

    private static void landLines() {
        Edge.says(4, "r NODE - NODE = MINUTES (unlike NODES, each two once) ;");
        stands("r0-1=1", 1);
        stands("r11-10=60", 1);
        fault("r5-5=1", 3);
        fault("r11-11=1", 5);
        fault("r0-00=1", 4);
        fault("r1-01=1", 4);
        fault("r0-1=1;r0-1=2", 10);
        fault("r0-1=1;r1-0=2", 10);
        fault("r10-11=1;r11-10=2", 14);
        fault("r0-1=1;r2-3=1;r1-0=1", 17);
        stands("r0-1=1;r0-2=1;r1-2=1", 3);
        stands("r0-1=1;r0-11=1;r1-11=1;r1-10=1", 4);
        fault("r0=1", 2);
        fault("r0-1-1", 4);
        fault("r0-1=", 5);

        Edge.says(4, "w NODE = WEIGHT (each NODE once) ;");
        stands("w0=0", 1);
        stands("w11=99", 1);
        fault("w0=1;w0=1", 6);
        fault("w0=0;w0=1", 6);
        fault("w0=1;w00=1", 7);
        fault("w11=1;w10=1;w11=1", 14);
        stands("w1=1;w11=1;w10=1;w0=1", 4);
        fault("w0-1", 2);
        fault("w0=1=1", 4);
        StringBuilder twelve = new StringBuilder("w0=1");
        for (int a = 1; a < 12; a++) {
            twelve.append(";w").append(a).append("=1");
        }
        stands(twelve.toString(), 12);
        fault(twelve + ";w5=1", twelve.length() + 2);
    }

    private static void landStationsAndEngines() {
        Edge.says(4, "s NODE {, NODE} (STATIONS; once, 8 at most, unlike) ;");
        stands("s0", 1);
        stands("s0,1,2,3,4,5,6,7", 1);
        stands("s11,10,9,8,7,6,5,4", 1);
        fault("s0,1,2,3,4,5,6,7,8", 16);
        fault("s0;s1", 3);
        fault("s0,1,0", 5);
        fault("s0,00", 4);
        stands("s1,11,10,0", 1);
        fault("s", 1);
        fault("s,", 1);
        fault("s0,", 3);
        fault("s0,,1", 3);
        fault("s0-1", 2);
        fault("s0=1", 2);

        Edge.says(4, "e STATION {, STATION} (POSTS of ENGINES; once, behind s, 6 at most).");
        stands("s0;e0", 2);
        stands("s0;e0,0,0,0,0,0", 2);
        fault("s0;e0,0,0,0,0,0,0", 15);
        fault("e0;s0", 0);
        fault("s0;e0;e0", 6);
        stands("s0;w0=1;r0-1=1;e0", 4);
        fault("s9;e9", 4);
        stands("s9,3;e1,0,1", 2);
        fault("s9,3;e2", 6);
        stands("s0,1,2,3,4,5,6,7;e7", 2);
        fault("s0,1,2,3,4,5,6,7;e8", 18);
        fault("s0;e", 4);
        fault("s0;e,0", 4);
        fault("s0;e0,", 6);
        EnginesOut x = Checks.on("s9,3;e1,0,1");
        Edge.due("POST", x.engine(0, 0), 1);
        Edge.due("POST", x.engine(1, 0), 0);
        Edge.due("POST", x.engine(2, 0), 1);
        Edge.due("of another land", Checks.land(x, "e0"), -21);
    }

    private static void landNumbers() {
        Edge.says(4, "No blanks; numbers of one or two digits.");
        String[] blanks = {" w0=1", "w 0=1", "w0 =1", "w0= 1", "w0=1 ", "w0=1 ;w1=1", "w0=1; w1=1", "w0=1\n", "\tw0=1", "s0, 1"};
        for (String text : blanks) {
            fault(text, Math.max(text.indexOf(' '), Math.max(text.indexOf('\n'), text.indexOf('\t'))));
        }
        stands("r00-01=01;w00=00;s00,01;e00,01", 4);
        fault("r000-1=1", 3);
        fault("r0-011=1", 5);
        fault("r0-1=001", 6);
        fault("r0-1=010", 7);
        fault("w001=1", 3);
        fault("w0=001", 5);
        fault("s001", 3);
        fault("s0;e000", 6);
        fault("w=1", 1);
        fault("w0=", 3);
        fault("w0=+1", 3);
        fault("w0=-1", 3);
        fault("w0=1.", 4);
        fault("w0=:", 3);
        fault("w0=/", 3);
        fault("w0=1:", 4);
        fault("w0=1/", 4);

        Edge.says(4, "How many LINES;");
        stands("w0=1", 1);
        stands("r0-1=1;w0=1;s0;e0", 4);
        stands(EdgeTerms.fullText(), 31);
    }

    private static void landAnew() {
        Edge.says(4, "MINUTE is 0, all are READY, no ROAD is shut, nothing was called, kept or moved;");
        EnginesOut x = Checks.on(LINE);
        x.call(7);
        x.reach(5);
        x.call(3);
        x.post(0, 1);
        x.shuts(0, 1, true);
        x.pass(7);
        x.keeps();
        Edge.due("the same land again", Checks.land(x, LINE), 9);
        int[] counts = {3, 2, 3, 0, 0, 0, 0, 0, 0, 0, 0, 3};
        for (int what = 0; what < counts.length; what++) {
            Edge.due("count(" + what + ")", x.count(what), counts[what]);
        }
        Edge.due("READY in none", x.engine(0, 2), 0);
        Edge.due("READY in none", x.engine(1, 2), 0);
        Edge.due("POST as told", x.engine(0, 0), 0);
        Edge.due("OPEN", x.far(0, 1), 5);
        Edge.due("OPEN", x.shuts(0, 1, false), -3);
        Edge.due("the first shut", x.shuts(1, 2, true), 1);
        Edge.due("nothing kept", x.back(), -2);
        Edge.due("none moved", x.left(), 6);
        Edge.row("now", x, 0);
        x.pass(3);
        Edge.due("keeps again", x.keeps(), 3);
        Edge.due("and back", x.back(), 3);
        EnginesOut refused = Checks.on(LINE);
        refused.pass(4);
        refused.keeps();
        refused.pass(1);
        Edge.due("a refused land", Checks.land(refused, "w0=1;"), -21 - 5);
        Edge.due("MINUTE stays", refused.count(5), 5);
        Edge.due("what was kept stays", refused.back(), 4);

        Edge.says(4, "REACH, SERVICE, LIMIT, R stay.");
        EnginesOut y = Checks.on(LINE);
        y.reach(5);
        y.service(17);
        y.limit(4);
        y.seed(-9);
        Edge.due("another land", Checks.land(y, "s0;e0"), 2);
        Edge.due("an empty one", Checks.land(y, ""), 0);
        Edge.due("a refused one", Checks.land(y, "x"), -21);
        Edge.due("R", y.count(12), -9);
        Edge.due("REACH", y.reach(1), 5);
        Edge.due("SERVICE", y.service(1), 17);
        Edge.due("LIMIT", y.limit(1), 4);
    }

    private static void landFaults() {
        Edge.says(4, "-21 - p (a number that is none such, or told already: its last digit;");
        fault("r12-0=1", 2);
        fault("r99-0=1", 2);
        fault("r0-12=1", 4);
        fault("r0-1=0", 5);
        fault("r0-1=0;", 5);
        fault("r0-1=00", 6);
        fault("r0-1=61", 6);
        fault("r0-1=99", 6);
        fault("w12=1", 2);
        fault("s12", 2);
        fault("s0,20", 4);
        fault("s0;e1", 4);
        fault("s0;e01", 5);
        fault("s0;e10", 5);
        fault("s0;e95", 5);
        fault("s0,1;e1,2", 8);
        fault("w1=1;w1=1", 6);
        fault("w1=1;w01=1", 7);
        fault("s1,1", 3);
        fault("s1,01", 4);
        fault("r1-2=1;r2-01=1", 11);

        Edge.says(4, "a second s, e, an e ahead of s: it;");
        fault("s0;s", 3);
        fault("s0;w0=1;s1", 8);
        fault("s0;e0;s1", 6);
        fault("s0;e0;e0", 6);
        fault("s0;e0;w0=1;e", 11);
        fault("e", 0);
        fault("e0", 0);
        fault("w0=1;e0;s0", 5);

        Edge.says(4, "a 9th STATION, a 7th ENGINE: the , ahead of it).");
        fault("s0,1,2,3,4,5,6,7,8", 16);
        fault("s0,1,2,3,4,5,6,7,", 16);
        fault("s0,1,2,3,4,5,6,7,0;e0", 16);
        fault("s00,01,02,03,04,05,06,07,08", 24);
        fault("s0;e0,0,0,0,0,0,0", 15);
        fault("s0;e0,0,0,0,0,0,", 15);
        fault("s0;e00,00,00,00,00,00,9", 21);
    }

    private static void settings() {
        Edge.says(5, "REACH becomes r: what it was.");
        EnginesOut x = Checks.on("r0-1=60;r0-2=1;r0-3=2;s0;e0");
        Edge.due("8 at first", x.reach(60), 8);
        Edge.due("60", x.reached(0), 15);
        Edge.due("60 it was", x.reach(1), 60);
        Edge.due("1", x.reached(0), 5);
        Edge.due("1 it was", x.reach(1), 1);
        Edge.says(5, "NONE: another r.");
        for (int r : new int[] {0, -1, 61, 62, LEAST, MOST}) {
            Edge.due("reach(" + r + ")", x.reach(r), -1);
        }
        Edge.due("it stays", x.reach(2), 1);

        Edge.says(6, "SERVICE becomes s: what it was.");
        EnginesOut y = Checks.on("s0;e0,0");
        Edge.due("30 at first", y.service(240), 30);
        y.call(0);
        Edge.due("240", y.engine(0, 2), 240);
        Edge.due("240 it was", y.service(1), 240);
        y.call(0);
        Edge.due("1", y.engine(1, 2), 1);
        Edge.says(6, "NONE: another s.");
        for (int s : new int[] {0, -1, 241, 242, LEAST, MOST}) {
            Edge.due("service(" + s + ")", y.service(s), -1);
        }
        Edge.due("it stays", y.service(2), 1);

        Edge.says(7, "LIMIT becomes l: what it was.");
        EnginesOut z = Checks.on("r0-1=1;s0,1;e0");
        Edge.due("6 at first", z.limit(20), 6);
        Edge.due("20", z.left(), 20);
        Edge.due("20 it was", z.limit(0), 20);
        Edge.due("0", z.left(), 0);
        Edge.due("0 it was", z.limit(1), 0);
        Edge.says(7, "NONE: another l.");
        for (int l : new int[] {-1, -2, 21, 22, LEAST, MOST}) {
            Edge.due("limit(" + l + ")", z.limit(l), -1);
        }
        Edge.due("it stays", z.limit(2), 1);
    }

    private static void shuts() {
        Edge.says(8, "A ROAD is shut, or OPEN again: how many are shut.");
        EnginesOut x = Checks.on(LINE);
        Edge.due("one", x.shuts(0, 1, true), 1);
        Edge.due("two", x.shuts(3, 2, true), 2);
        Edge.due("three, all", x.shuts(2, 1, true), 3);
        for (int a = 1; a < 4; a++) {
            Edge.due("no way to " + a, x.far(0, a), 999);
        }
        Edge.due("COVER by those that stand there", x.cover(), 40);
        Edge.due("two", x.shuts(1, 0, false), 2);
        Edge.due("one", x.shuts(1, 2, false), 1);
        Edge.due("a way again", x.far(0, 2), 9);
        Edge.due("none", x.shuts(2, 3, false), 0);
        Edge.due("ROADS", x.count(11), 3);
        Edge.says(8, "-2: there is none;");
        Edge.due("shut none", x.shuts(0, 2, true), -2);
        Edge.due("open none", x.shuts(0, 2, false), -2);
        Edge.due("to itself", x.shuts(1, 1, true), -2);
        Edge.due("to itself", x.shuts(11, 11, false), -2);
        Edge.due("in no land", new EnginesOut().shuts(0, 1, true), -2);
        Edge.says(8, "-3: it is so.");
        Edge.due("it is OPEN", x.shuts(0, 1, false), -3);
        Edge.due("it is OPEN", x.shuts(1, 0, false), -3);
        Edge.due("now shut", x.shuts(0, 1, true), 1);
        Edge.due("it is shut", x.shuts(0, 1, true), -3);
        Edge.due("it is shut", x.shuts(1, 0, true), -3);
        Edge.due("OPEN again", x.shuts(0, 1, false), 0);
        Edge.due("it is OPEN", x.shuts(0, 1, false), -3);
    }

    private static void farAndReached() {
        Edge.says(9, "FAR of two NODES.");
        EnginesOut x = Checks.on(LINE);
        int[] ways = {0, 5, 9, 15, 999};
        for (int a = 0; a < ways.length; a++) {
            Edge.due("far(0, " + a + ")", x.far(0, a), ways[a]);
            Edge.due("far(" + a + ", 0)", x.far(a, 0), ways[a]);
        }
        Edge.due("no such NODE", x.far(-1, 0), -1);
        Edge.due("no such NODE", x.far(0, 12), -1);
        Edge.due("no such NODE twice", x.far(12, 12), -1);

        Edge.says(10, "NODES that a STATION REACHES, as bits;");
        Edge.due("reached(0)", x.reached(0), 3);
        Edge.due("reached(1)", x.reached(1), 14);
        Edge.due("reached(2)", x.reached(2), 12);
        Edge.due("no such STATION", x.reached(3), -1);
        Edge.due("no such STATION", x.reached(-1), -1);
        Edge.due("no such STATION", new EnginesOut().reached(0), -1);
        EnginesOut all = Checks.on("r0-1=1;r1-2=1;r2-3=1;r3-4=1;r4-5=1;r5-6=1;r6-7=1;r7-8=1;r8-9=1;r9-10=1;r10-11=1;s11");
        Edge.due("8 off at most", all.reached(0), 0xff8);
        all.reach(11);
        Edge.due("all", all.reached(0), 0xfff);
        all.reach(10);
        Edge.due("all but the farthest", all.reached(0), 0xffe);
        x.call(0);
        Edge.due("whoever is OUT", x.reached(0), 3);
        Edge.says(10, "the ROW: their WEIGHTS together.");
        x.reached(0);
        Edge.row("10 and 20", x, 30);
        x.reached(1);
        Edge.row("20, 30 and 40", x, 90);
        x.reached(3);
        Edge.row("it stays with NONE", x, 90);
        all.reached(0);
        Edge.row("none has WEIGHT", all, 0);
    }

    private static void node() {
        Edge.says(11, "Of a NODE what 0: WEIGHT,");
        EnginesOut x = Checks.on("r0-1=4;r1-2=4;r2-3=9;w1=20;w3=99;s2,0,5;e1,0,0,2");
        Edge.due("20", x.node(1, 0), 20);
        Edge.due("99", x.node(3, 0), 99);
        Edge.due("0", x.node(0, 0), 0);
        Edge.says(11, "1: how many READY ENGINES REACH it,");
        Edge.due("8 off is REACHED", x.node(0, 1), 3);
        Edge.due("9 off is not", x.node(3, 1), 0);
        Edge.due("one", x.node(5, 1), 1);
        Edge.due("none", x.node(11, 1), 0);
        x.call(5);
        Edge.due("it is OUT", x.node(5, 1), 0);
        x.call(0);
        Edge.due("one is OUT", x.node(0, 1), 2);
        x.post(1, 1);
        Edge.due("one is MOVING", x.node(0, 1), 1);
        Edge.says(11, "2: the STATION least FAR from it, of like ones the least (NONE: none has a way),");
        Edge.due("of like ones the least", x.node(1, 2), 0);
        Edge.due("its own", x.node(0, 2), 1);
        Edge.due("its own, whoever is OUT", x.node(5, 2), 2);
        Edge.due("farther than REACH", x.node(3, 2), 0);
        Edge.due("none has a way", x.node(11, 2), -1);
        Edge.due("no STATIONS", new EnginesOut().node(0, 2), -1);
        x.shuts(2, 3, true);
        Edge.due("none has a way any more", x.node(3, 2), -1);
        Edge.says(11, "3: the READY ENGINE that would go to a CALL there (NONE).");
        Edge.due("2 at NODE 2 is the one READY", x.node(0, 3), 2);
        Edge.due("OUT", x.node(5, 3), -1);
        Edge.due("no way", x.node(3, 3), -1);
        x.call(0);
        Edge.due("none is READY", x.node(0, 3), -1);
        Edge.due("no ENGINES", new EnginesOut().node(0, 3), -1);
        Edge.due("of like ones the least", Checks.on("r0-1=4;r1-2=4;s2,0;e1,0").node(1, 3), 0);
        Edge.says(11, "NONE: another what.");
        for (int what : new int[] {-1, 4, 5, LEAST, MOST}) {
            Edge.due("node(0, " + what + ")", x.node(0, what), -1);
        }
        Edge.due("no such NODE", x.node(12, 0), -1);
        Edge.due("no such NODE", x.node(-1, 1), -1);
    }

    private static void engine() {
        Edge.says(12, "Of an ENGINE what 0: its POST,");
        EnginesOut x = Checks.on("r0-1=4;r1-2=4;s2,0,5;e1,0,2");
        Edge.due("1", x.engine(0, 0), 1);
        Edge.due("0", x.engine(1, 0), 0);
        Edge.due("2", x.engine(2, 0), 2);
        x.call(5);
        x.post(0, 0);
        Edge.due("MOVING: the new one", x.engine(0, 0), 0);
        Edge.due("OUT: its own", x.engine(2, 0), 2);
        Edge.says(12, "1: 0 if it is READY, 1 MOVING, 2 OUT,");
        Edge.due("MOVING", x.engine(0, 1), 1);
        Edge.due("READY", x.engine(1, 1), 0);
        Edge.due("OUT", x.engine(2, 1), 2);
        Edge.says(12, "2: in how many MINUTES it is READY (0: it is).");
        Edge.due("MOVING", x.engine(0, 2), 8);
        Edge.due("it is", x.engine(1, 2), 0);
        Edge.due("OUT", x.engine(2, 2), 30);
        x.pass(7);
        Edge.due("in one", x.engine(0, 2), 1);
        x.pass(1);
        Edge.due("it is", x.engine(0, 2), 0);
        x.pass(21);
        Edge.due("it is, long since", x.engine(0, 2), 0);
        Edge.due("in one", x.engine(2, 2), 1);
        x.pass(1);
        Edge.due("it is", x.engine(2, 2), 0);
        Edge.says(12, "NONE: another what.");
        for (int what : new int[] {-1, 3, 4, LEAST, MOST}) {
            Edge.due("engine(0, " + what + ")", x.engine(0, what), -1);
        }
        Edge.due("no such ENGINE", x.engine(3, 0), -1);
        Edge.due("no such ENGINE", x.engine(-1, 0), -1);
    }

    private static void station() {
        Edge.says(13, "NODE of a STATION.");
        EnginesOut x = Checks.on("s11,0,5,7,1,2,3,4");
        int[] nodes = {11, 0, 5, 7, 1, 2, 3, 4};
        for (int s = 0; s < nodes.length; s++) {
            Edge.due("station(" + s + ")", x.station(s), nodes[s]);
        }
        for (int s : new int[] {-1, 8, 9, LEAST, MOST}) {
            Edge.due("station(" + s + ")", x.station(s), -1);
        }
        Edge.due("the last of one", Checks.on("s6").station(0), 6);
        Edge.due("one more", Checks.on("s6").station(1), -1);
    }
}
