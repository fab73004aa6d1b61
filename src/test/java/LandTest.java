/** Promises 1 to 13: a new object, THE TEXT, the land, and what is asked of it. */
public final class LandTest {
    private static final String LAND = "r0-1=5;r1-2=4;r2-3=6;w0=10;w1=20;w2=30;w3=40;s0,2,3;e0,1";

    private static void due(String what, long got, long want) {
        Checks.due(what, got, want);
    }

    public static void main(String[] args) {
        newObject();
        sign();
        end();
        landsThatStand();
        landsRefused();
        landStartsAnew();
        landRefusedChangesNothing();
        settings();
        shuts();
        far();
        reached();
        node();
        engine();
        station();
        Checks.close("LandTest");
    }

    private static void newObject() {
        EnginesOut x = new EnginesOut();
        int[] counts = {0, 0, 0, 0, 0, 0, 0, 0, 0, 0, 0, 0, 1, 0, 0};
        for (int what = 0; what < counts.length; what++) {
            due("1: count(" + what + ")", x.count(what), counts[what]);
        }
        Checks.rowIs("1: new", x);
        for (int a = 0; a < 12; a++) {
            due("1: WEIGHT", x.node(a, 0), 0);
            due("1: far to itself", x.far(a, a), 0);
            due("1: far to another", x.far(a, (a + 1) % 12), 999);
        }
        due("1: NONE", EnginesOut.NONE, -1);
        due("1: REACH", x.reach(1), 8);
        due("1: SERVICE", x.service(1), 30);
        due("1: LIMIT", x.limit(1), 6);
    }

    private static void sign() {
        EnginesOut x = new EnginesOut();
        due("2: the highest byte is the first sign", x.sign('w' << 24 | '9' << 16 | '=' << 8 | '7'), 4);
        due("2: land", x.land(), 1);
        due("2: WEIGHT", x.node(9, 0), 7);
        due("2: the text is empty behind land", x.count(14), 0);
        for (int i = 1; i <= 75; i++) {
            due("2: sign", x.sign(-1), 4 * i);
        }
        due("2: more than 300", x.sign(0), -1);
        due("2: it stays", x.count(14), 300);
        for (int n = 299; n > 296; n--) {
            due("2: end", x.end(n) ? 1 : 0, 1);
            due("2: would be more than 300", x.sign(0), -1);
            due("2: it stays", x.count(14), n);
        }
        x.end(296);
        due("2: 300 in all", x.sign(0), 300);
        x.end(0);
        x.sign(0xf3f4f5f6);
        due("2: signs above 127 can't stand", x.land(), -21);
    }

    private static void end() {
        EnginesOut x = new EnginesOut();
        due("3: 0 of none", x.end(0) ? 1 : 0, 1);
        due("3: 1 of none", x.end(1) ? 1 : 0, 0);
        Checks.type(x, "w0=1w");
        due("3: below 0", x.end(-1) ? 1 : 0, 0);
        due("3: least of all", x.end(Integer.MIN_VALUE) ? 1 : 0, 0);
        due("3: too many", x.end(6) ? 1 : 0, 0);
        due("3: most of all", x.end(Integer.MAX_VALUE) ? 1 : 0, 0);
        due("3: refused, it stays", x.count(14), 5);
        due("3: as many as it has", x.end(5) ? 1 : 0, 1);
        due("3: fewer", x.end(4) ? 1 : 0, 1);
        due("3: the last is gone", x.count(14), 4);
        due("3: what is left can be read", x.land(), 1);
    }

    private static void stands(String text, int lines) {
        EnginesOut x = new EnginesOut();
        Checks.type(x, text);
        due("4: " + text, x.land(), lines);
        due("4: emptied by " + text, x.count(14), 0);
    }

    private static void landsThatStand() {
        stands("", 0);
        stands(LAND, 9);
        stands("s00,01;e01,1", 2);
        stands("w11=99;w10=00;w1=1", 3);
        stands("r11-10=60;r01-00=01", 2);
        stands("s0;w0=1;e0", 3);
        stands("s0,1,2,3,4,5,6,7;e0,1,2,3,7,7", 2);
        stands("s11;e0,0,0,0,0,0;r1-2=3", 3);
        stands("w1=1;w10=1;w11=1", 3);
        EnginesOut x = Checks.on("w0=5;s10,3;e1;r11-3=60;r3-0=7");
        due("4: station 0", x.station(0), 10);
        due("4: station 1", x.station(1), 3);
        due("4: POST", x.engine(0, 0), 1);
        due("4: far", x.far(11, 0), 67);
        due("4: ROADS", x.count(11), 2);
        due("4: READY", x.count(2), 1);
        due("4: WEIGHT not told", x.node(3, 0), 0);
        due("4: none, in its place", Checks.land(x, ""), 0);
        due("4: no STATIONS", x.count(0), 0);
        due("4: no ENGINES", x.count(1), 0);
        due("4: no ROADS", x.count(11), 0);
        due("4: no way", x.far(3, 0), 999);
        due("4: no WEIGHT", x.node(0, 0), 0);
    }

    private static void refused(String text, int p) {
        EnginesOut x = new EnginesOut();
        Checks.type(x, text);
        due("4: " + text, x.land(), -21 - p);
        due("4: emptied by " + text, x.count(14), 0);
    }

    private static void landsRefused() {
        String[] wrongLines = {"x", ";", "S0", " s0", "0", ",", "=", "-"};
        for (String text : wrongLines) {
            refused(text, 0);
        }
        refused("r", 1);
        refused("rx", 1);
        refused("r 0", 1);
        refused("r-", 1);
        refused("r12-1=5", 2);
        refused("r0", 2);
        refused("r0=", 2);
        refused("r011-1=1", 3);
        refused("r0-", 3);
        refused("r0-0=5", 3);
        refused("r0-0", 3);
        refused("r0-00=5", 4);
        refused("r0-12=5", 4);
        refused("r0-99", 4);
        refused("r0-1", 4);
        refused("r0-1;", 4);
        refused("r0-1=", 5);
        refused("r0-1=;", 5);
        refused("r0-1=0", 5);
        refused("r0-1=00", 6);
        refused("r0-1=61", 6);
        refused("r0-1=610", 6);
        refused("r0-1=601", 7);
        refused("r0-1=60;", 8);
        refused("r0-1=60,", 7);
        refused("r0-1=5;r1-0=6", 10);
        refused("r0-1=5;r0-1=6", 10);
        refused("r0-1=5;r0-01=6", 11);
        refused("w", 1);
        refused("w12=1", 2);
        refused("w1", 2);
        refused("w1-1", 2);
        refused("w1=", 3);
        refused("w1=-1", 3);
        refused("w1=100", 5);
        refused("w1=1;w1=2", 6);
        refused("w1=1;w01=2", 7);
        refused("w1=1;w11=2;w11=3", 13);
        refused("w0=1,", 4);
        refused("w0=1;;w1=1", 5);
        refused("s", 1);
        refused("s0,", 3);
        refused("s0;", 3);
        refused("s0 ", 2);
        refused("s0,a", 3);
        refused("s12", 2);
        refused("s0,0", 3);
        refused("s0,00", 4);
        refused("s1,10,1,5", 6);
        refused("s0;s1", 3);
        refused("s0;w0=1;s", 8);
        refused("s0,1,2,3,4,5,6,7,8", 16);
        refused("s0,1,2,3,4,5,6,7,", 16);
        refused("e0", 0);
        refused("w0=1;e0;s0", 5);
        refused("s0;e", 4);
        refused("s0;e1", 4);
        refused("s0;e01", 5);
        refused("s0;e12", 5);
        refused("s0;e0,", 6);
        refused("s0;e0,1", 6);
        refused("s0;e0;e0", 6);
        refused("s0;e0,0,0,0,0,0,0", 15);
        refused("s0;e0\0", 5);
    }

    private static void landStartsAnew() {
        EnginesOut x = Checks.on(LAND);
        x.reach(11);
        x.service(12);
        x.limit(13);
        x.seed(14);
        x.shuts(0, 1, true);
        x.call(0);
        x.call(3);
        x.call(3);
        x.pass(60);
        due("4: one moves", x.post(1, 2), 6);
        x.keeps();
        x.reached(1);
        due("4: land again", Checks.land(x, "r0-1=5;w0=1;s1;e0"), 4);
        Checks.rowIs("4: the ROW stays", x, 90);
        int[] counts = {1, 1, 1, 0, 0, 0, 0, 0, 0, 0, 0, 1, 14};
        for (int what = 0; what < counts.length; what++) {
            due("4: count(" + what + ")", x.count(what), counts[what]);
        }
        due("4: no ROAD is shut", x.far(0, 1), 5);
        due("4: nothing is shut", x.shuts(0, 1, true), 1);
        due("4: nothing is kept", x.back(), -2);
        due("4: nothing was moved", x.left(), 13);
        due("4: REACH stays", x.reach(1), 11);
        due("4: SERVICE stays", x.service(1), 12);
        due("4: LIMIT stays", x.limit(1), 13);
    }

    private static void landRefusedChangesNothing() {
        EnginesOut x = Checks.on(LAND);
        x.shuts(0, 1, true);
        x.pass(7);
        x.keeps();
        x.call(0);
        x.cover();
        due("4: refused", Checks.land(x, "r5-6=7;w0=99;s1,2;e1,1,1;"), -21 - 25);
        Checks.rowIs("4: refused, the ROW stays", x, 0, 100);
        due("4: STATIONS", x.count(0), 3);
        due("4: ENGINES", x.count(1), 2);
        due("4: MINUTE", x.count(5), 7);
        due("4: CALLS", x.count(6), 1);
        due("4: ROADS", x.count(11), 3);
        due("4: OUT", x.count(3), 1);
        due("4: WEIGHT", x.node(0, 0), 10);
        due("4: no such road", x.far(5, 6), 999);
        due("4: shut still", x.far(0, 1), 999);
        due("4: kept still", x.back(), 7);
    }

    private static void settings() {
        EnginesOut x = Checks.on(LAND);
        int[] wrongReach = {0, -1, 61, Integer.MIN_VALUE, Integer.MAX_VALUE};
        for (int r : wrongReach) {
            due("5: reach(" + r + ")", x.reach(r), -1);
        }
        due("5: reach(1)", x.reach(1), 8);
        due("5: reach(60)", x.reach(60), 1);
        due("5: all are REACHED", x.reached(0), 15);
        due("5: reach(8)", x.reach(8), 60);
        int[] wrongService = {0, -1, 241, Integer.MIN_VALUE, Integer.MAX_VALUE};
        for (int s : wrongService) {
            due("6: service(" + s + ")", x.service(s), -1);
        }
        due("6: service(1)", x.service(1), 30);
        x.call(0);
        due("6: OUT for 1", x.engine(0, 2), 1);
        due("6: service(240)", x.service(240), 1);
        x.call(2);
        due("6: OUT for 240", x.engine(1, 2), 240);
        due("6: service(30)", x.service(30), 240);
        int[] wrongLimit = {-1, 21, Integer.MIN_VALUE, Integer.MAX_VALUE};
        for (int l : wrongLimit) {
            due("7: limit(" + l + ")", x.limit(l), -1);
        }
        due("7: limit(0)", x.limit(0), 6);
        due("7: limit(20)", x.limit(20), 0);
        due("7: 20 may move", x.left(), 20);
        due("7: limit(6)", x.limit(6), 20);
    }

    private static void shuts() {
        EnginesOut x = Checks.on(LAND);
        due("8: no such NODE", x.shuts(-1, 0, true), -1);
        due("8: no such NODE", x.shuts(0, 12, true), -1);
        due("8: one NODE", x.shuts(1, 1, true), -2);
        due("8: no ROAD", x.shuts(0, 2, true), -2);
        due("8: no ROAD to open", x.shuts(0, 2, false), -2);
        due("8: it is OPEN", x.shuts(0, 1, false), -3);
        due("8: shut", x.shuts(0, 1, true), 1);
        due("8: it is shut", x.shuts(1, 0, true), -3);
        due("8: a second", x.shuts(3, 2, true), 2);
        due("8: no way", x.far(0, 1), 999);
        due("8: no way", x.far(2, 3), 999);
        due("8: way", x.far(2, 1), 4);
        due("8: ROADS are as many", x.count(11), 3);
        due("8: OPEN again", x.shuts(1, 0, false), 1);
        due("8: way again", x.far(0, 2), 9);
        due("8: OPEN again", x.shuts(2, 3, false), 0);
    }

    private static void far() {
        EnginesOut x = Checks.on("r0-1=30;r1-2=30;r0-3=20;r3-2=20;r2-4=60;r4-5=60;r6-7=1");
        due("9: by the shorter way", x.far(0, 2), 40);
        due("9: back", x.far(2, 0), 40);
        due("9: over several", x.far(5, 0), 160);
        due("9: straight", x.far(0, 1), 30);
        due("9: no way", x.far(0, 6), 999);
        due("9: itself", x.far(11, 11), 0);
        int[] none = {-1, 12, Integer.MIN_VALUE, Integer.MAX_VALUE};
        for (int a : none) {
            due("9: no such NODE", x.far(a, 0), -1);
            due("9: no such NODE", x.far(0, a), -1);
        }
        Checks.rowIs("9: no ROW", x);
    }

    private static void reached() {
        EnginesOut x = Checks.on(LAND);
        due("10: reached(0)", x.reached(0), 3);
        Checks.rowIs("10: WEIGHTS", x, 30);
        due("10: reached(1)", x.reached(1), 14);
        Checks.rowIs("10: WEIGHTS", x, 90);
        due("10: no such", x.reached(3), -1);
        due("10: no such", x.reached(-1), -1);
        Checks.rowIs("10: the ROW stays", x, 90);
        x.reach(9);
        due("10: as far as REACH", x.reached(0), 7);
        x.reach(5);
        due("10: as far as REACH", x.reached(0), 3);
        x.reach(4);
        due("10: farther than REACH", x.reached(0), 1);
    }

    private static void node() {
        EnginesOut x = Checks.on("r0-1=4;r1-2=4;r2-3=6;w1=20;w3=99;s0,2,5;e1,0,0,2");
        due("11: WEIGHT", x.node(3, 0), 99);
        due("11: no WEIGHT", x.node(0, 0), 0);
        due("11: READY that REACH it", x.node(1, 1), 3);
        due("11: READY that REACH it", x.node(3, 1), 1);
        due("11: none REACHES it", x.node(4, 1), 0);
        due("11: nearest STATION, the least of two", x.node(1, 2), 0);
        due("11: nearest STATION", x.node(3, 2), 1);
        due("11: its own", x.node(5, 2), 2);
        due("11: no STATION has a way", x.node(11, 2), -1);
        due("11: who would go, the least of like ones", x.node(1, 3), 0);
        due("11: who would go", x.node(0, 3), 1);
        due("11: none would go", x.node(11, 3), -1);
        x.call(1);
        due("11: OUT ones do not REACH", x.node(1, 1), 2);
        due("11: nor go", x.node(1, 3), 1);
        due("11: STATIONS stay", x.node(2, 2), 1);
        due("11: another what", x.node(0, 4), -1);
        due("11: another what", x.node(0, -1), -1);
        due("11: no such NODE", x.node(12, 0), -1);
        due("11: no such NODE", x.node(-1, 0), -1);
    }

    private static void engine() {
        EnginesOut x = Checks.on(LAND);
        due("12: POST", x.engine(1, 0), 1);
        due("12: READY", x.engine(1, 1), 0);
        due("12: in no MINUTES", x.engine(1, 2), 0);
        x.call(3);
        x.post(0, 2);
        due("12: OUT", x.engine(1, 1), 2);
        due("12: in 2 x 6 + 30", x.engine(1, 2), 42);
        due("12: POST stays", x.engine(1, 0), 1);
        due("12: MOVING", x.engine(0, 1), 1);
        due("12: in 15", x.engine(0, 2), 15);
        due("12: new POST", x.engine(0, 0), 2);
        x.pass(14);
        due("12: in 1", x.engine(0, 2), 1);
        x.pass(1);
        due("12: READY", x.engine(0, 1), 0);
        x.pass(5);
        due("12: in none", x.engine(0, 2), 0);
        due("12: in 22", x.engine(1, 2), 22);
        due("12: another what", x.engine(0, 3), -1);
        due("12: another what", x.engine(0, -1), -1);
        due("12: no such ENGINE", x.engine(2, 0), -1);
        due("12: no such ENGINE", x.engine(-1, 0), -1);
    }

    private static void station() {
        EnginesOut x = Checks.on("s11,0,5");
        due("13: station(0)", x.station(0), 11);
        due("13: station(1)", x.station(1), 0);
        due("13: station(2)", x.station(2), 5);
        int[] none = {-1, 3, 8, Integer.MIN_VALUE, Integer.MAX_VALUE};
        for (int s : none) {
            due("13: no such", x.station(s), -1);
        }
    }
}
