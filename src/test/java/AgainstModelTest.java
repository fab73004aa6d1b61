import java.util.Random;

/** Runs that are drawn, each call compared with what the model answers; and that no call throws by itself. */
public final class AgainstModelTest {
    private static final int MOST_CALLS = 512;
    private static final int[] ODD = {Integer.MIN_VALUE, Integer.MAX_VALUE, -2, -1, 0, 1, 6, 7, 8, 9, 11, 12, 20, 21,
        60, 61, 240, 241, 255, 256, 600, 601, 1000, 1001, 1 << 20, 65536};

    private final Random random;
    private final String name;
    private final boolean isLarge;
    private EnginesOut x = new EnginesOut();
    private Model m = new Model();
    private int calls = 0;
    private String last = "new";

    private AgainstModelTest(long seed, boolean isLarge) {
        random = new Random(seed);
        name = "run " + seed + (isLarge ? " (large)" : "");
        this.isLarge = isLarge;
    }

    public static void main(String[] args) {
        for (long seed = 1; seed <= 6000 && Checks.isRight(); seed++) {
            new AgainstModelTest(seed, false).go();
        }
        for (long seed = 1; seed <= 25 && Checks.isRight(); seed++) {
            new AgainstModelTest(seed, true).go();
        }
        Checks.close("AgainstModelTest");
    }

    private int below(int n) {
        return random.nextInt(n);
    }

    /** Mostly a number from .. to, now and then an odd one. */
    private int some(int from, int to) {
        return below(25) == 0 ? ODD[below(ODD.length)] : from + below(to - from + 1);
    }

    private void due(String what, long got, long want) {
        last = what;
        Checks.due(name + ", call " + calls + ", " + what, got, want);
    }

    private void go() {
        try {
            tellLand();
            while (calls < MOST_CALLS - 130 && Checks.isRight()) {
                if (below(60) == 0) {
                    tellLand();
                } else {
                    step();
                }
                compare();
            }
        } catch (RuntimeException e) {
            Checks.due(name + ", behind " + last + " threw " + e, 1, 0);
        }
    }

    private void tellLand() {
        String text = landText();
        if (below(4) == 0) {
            text = spoilt(text);
        }
        if (below(50) == 0) {
            text = "";
        }
        if (text.length() > 300) {
            text = text.substring(0, 300);
        }
        calls += 2 + text.length() / 4;
        for (int v : Checks.signs(text)) {
            due("sign", x.sign(v), m.sign(v));
        }
        due("end", x.end(text.length()) ? 1 : 0, m.end(text.length()) ? 1 : 0);
        due("land of " + text, x.land(), m.land());
    }

    private String landText() {
        int nodes = isLarge ? 12 : 2 + below(11);
        StringBuilder text = new StringBuilder();
        int roads = isLarge ? 16 : below(2 * nodes);
        boolean[][] has = new boolean[12][12];
        for (int i = 0; i < roads; i++) {
            int a = below(nodes);
            int b = below(nodes);
            if (a != b && !has[a][b]) {
                has[a][b] = true;
                has[b][a] = true;
                text.append("r").append(a).append("-").append(b).append("=").append(1 + below(below(4) == 0 ? 60 : 9))
                    .append(";");
            }
        }
        for (int a = 0; a < nodes; a++) {
            if (below(5) > 0) {
                text.append("w").append(a).append("=").append(below(3) == 0 ? below(100) : below(5)).append(";");
            }
        }
        int stations = Math.min(nodes, isLarge ? 7 + below(2) : 1 + below(5));
        int engines = isLarge ? 4 + below(2) : 1 + below(4);
        if (below(12) > 0) {
            tellStations(text, nodes, stations, below(12) > 0 ? engines : 0);
        }
        return text.substring(0, Math.max(0, text.length() - 1));
    }

    private void tellStations(StringBuilder text, int nodes, int stations, int engines) {
        java.util.List<Integer> places = new java.util.ArrayList<>();
        for (int a = 0; a < nodes; a++) {
            places.add(a);
        }
        java.util.Collections.shuffle(places, random);
        for (int s = 0; s < stations; s++) {
            text.append(s == 0 ? "s" : ",").append(places.get(s));
        }
        text.append(";");
        for (int e = 0; e < engines; e++) {
            text.append(e == 0 ? "e" : ",").append(below(stations));
        }
        text.append(engines > 0 ? ";" : "");
    }

    private String spoilt(String text) {
        String signs = "0123456789rwse;,=-0011;; x\0\u00ff";
        StringBuilder s = new StringBuilder(text);
        for (int i = 1 + below(2); i > 0 && s.length() > 0; i--) {
            int p = below(s.length());
            switch (below(4)) {
                case 0:
                    s.deleteCharAt(p);
                    break;
                case 1:
                    s.insert(p, signs.charAt(below(signs.length())));
                    break;
                case 2:
                    s.setCharAt(p, signs.charAt(below(signs.length())));
                    break;
                default:
                    s.setLength(p);
                    break;
            }
        }
        return s.toString();
    }

    private void step() {
        calls++;
        int k = below(54);
        if (k < 13) {
            stepLand(k);
        } else if (k < 26) {
            stepCalls(k);
        } else if (k < 37) {
            stepReached(k);
        } else if (k < 42) {
            stepStates(k);
        } else {
            stepMoves(k);
        }
    }

    private void stepLand(int k) {
        int a = some(0, 11);
        int b = some(0, 11);
        switch (k) {
            case 0: due("sign(" + a + ")", x.sign(a), m.sign(a)); break;
            case 1: due("end(" + a + ")", x.end(a) ? 1 : 0, m.end(a) ? 1 : 0); break;
            case 2: int r = some(1, below(2) == 0 ? 12 : 60); due("reach(" + r + ")", x.reach(r), m.reach(r)); break;
            case 3: int s = some(1, 60); due("service(" + s + ")", x.service(s), m.service(s)); break;
            case 4: int l = some(0, 20); due("limit(" + l + ")", x.limit(l), m.limit(l)); break;
            case 5: case 6: shut(); break;
            case 7: due("far(" + a + ", " + b + ")", x.far(a, b), m.far(a, b)); break;
            case 8: int t = some(0, 4); due("reached(" + t + ")", x.reached(t), m.reached(t)); break;
            case 9: case 10: int w = some(0, 3); due("node(" + a + ", " + w + ")", x.node(a, w), m.node(a, w)); break;
            case 11: int e = some(0, 3); int v = some(0, 2); due("engine(" + e + ", " + v + ")", x.engine(e, v), m.engine(e, v)); break;
            default: due("station(" + a + ")", x.station(a), m.station(a)); break;
        }
    }

    private void shut() {
        int a = some(0, 11);
        int b = some(0, 11);
        if (!m.w.roads.isEmpty() && below(5) > 0) {
            int[] road = m.w.roads.get(below(m.w.roads.size()));
            a = road[0];
            b = road[1];
        }
        boolean is = random.nextBoolean();
        due("shuts(" + a + ", " + b + ", " + is + ")", x.shuts(a, b, is), m.shuts(a, b, is));
        due("shuts turned(" + b + ", " + a + ", " + is + ")", x.shuts(b, a, is), m.shuts(b, a, is));
    }

    private void stepCalls(int k) {
        int a = some(0, 11);
        int b = some(0, 11);
        switch (k) {
            case 13: case 14: case 15: case 16: due("call(" + a + ")", x.call(a), m.call(a)); break;
            case 17: case 18: due("pair(" + a + ", " + b + ")", x.pair(a, b), m.pair(a, b)); break;
            case 19: due("worstPair()", x.worstPair(), m.worstPair()); break;
            case 20: case 21: case 22: int n = some(1, below(3) == 0 ? 70 : 12); due("pass(" + n + ")", x.pass(n), m.pass(n)); break;
            case 23: int seed = below(2) == 0 ? random.nextInt() : ODD[below(ODD.length)]; due("seed(" + seed + ")", x.seed(seed), m.seed(seed)); break;
            default: int o = some(1, 40); int c = some(0, below(2) == 0 ? 100 : 1000); due("storms(" + o + ", " + c + ")", x.storms(o, c), m.storms(o, c)); break;
        }
    }

    private void stepReached(int k) {
        int a = some(0, 5);
        switch (k) {
            case 26: due("cover()", x.cover(), m.cover()); break;
            case 27: int bits = some(0, 40); due("covers(" + bits + ")", x.covers(bits), m.covers(bits)); break;
            case 28: due("share()", x.share(), m.share()); break;
            case 29: due("best(" + a + ")", x.best(a), m.best(a)); break;
            case 30: due("nested()", x.nested(), m.nested()); break;
            case 31: due("greedy()", x.greedy(), m.greedy()); break;
            case 32: due("dearest()", x.dearest(), m.dearest()); break;
            case 33: due("dearestRoad()", x.dearestRoad(), m.dearestRoad()); break;
            case 34: int v = some(0, 150); due("least(" + v + ")", x.least(v), m.least(v)); break;
            case 35: due("twice(" + a + ")", x.twice(a), m.twice(a)); break;
            default: due("spread()", x.spread(), m.spread()); break;
        }
    }

    private void stepStates(int k) {
        int a = some(0, 4);
        int p = below(3) == 0 ? some(0, 10) * 100 : some(0, 1000);
        switch (k) {
            case 37: int bits = some(0, 16); due("state(" + bits + ")", x.state(bits), m.state(bits)); break;
            case 38: due("worst(" + a + ")", x.worst(a), m.worst(a)); break;
            case 39: int v = some(0, 150); due("states(" + v + ")", x.states(v), m.states(v)); break;
            case 40: due("expects(" + p + ")", x.expects(p), m.expects(p)); break;
            default: due("bestFor(" + p + ")", x.bestFor(p), m.bestFor(p)); break;
        }
    }

    private void stepMoves(int k) {
        int e = some(0, 3);
        int f = some(0, 3);
        int n = some(0, 6);
        switch (k) {
            case 42: due("regret()", x.regret(), m.regret()); break;
            case 43: due("moves(" + n + ")", x.moves(n), m.moves(n)); break;
            case 44: case 45: due("up(" + n + ")", x.up(n), m.up(n)); break;
            case 46: case 47: due("post(" + e + ", " + f + ")", x.post(e, f), m.post(e, f)); break;
            case 48: due("swap(" + e + ", " + f + ")", x.swap(e, f), m.swap(e, f)); break;
            case 49: case 50: due("left()", x.left(), m.left()); break;
            case 51: due("needs()", x.needs(), m.needs()); break;
            case 52: due("keeps()", x.keeps(), m.keeps()); break;
            default: due("back()", x.back(), m.back()); break;
        }
    }

    /** The ROW, and something of all else that can be asked without changing it. */
    private void compare() {
        String behind = last;
        calls += 3 + m.row.size() + 3;
        due("behind " + behind + " count(13)", x.count(13), m.count(13));
        for (int i = 0; i < m.row.size() && i < x.count(13); i++) {
            due("behind " + behind + " row(" + i + ")", x.row(i), m.row.get(i));
        }
        int i = some(m.row.size(), m.row.size() + 2);
        due("behind " + behind + " row(" + i + ") is there", Checks.hasNumber(x, i) ? 1 : 0, i >= 0 && i < m.row.size() ? 1 : 0);
        for (int j = 0; j < 2; j++) {
            int what = some(-1, 15);
            due("behind " + behind + " count(" + what + ")", x.count(what), m.count(what));
        }
        int e = below(6);
        int what = below(3);
        due("behind " + behind + " engine(" + e + ", " + what + ")", x.engine(e, what), m.engine(e, what));
        last = behind;
    }
}
