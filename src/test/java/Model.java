import java.util.ArrayList;
import java.util.Arrays;
import java.util.Collections;
import java.util.List;
import java.util.TreeMap;

/**
 * The document said again, as plainly as can be and without any thought of speed: every choice
 * is made by going through all ways there are. The tests compare EnginesOut with it.
 */
final class Model {
    static final int NONE = -1;

    /** All that keeps() keeps. */
    static final class All {
        int[] weight = new int[12];
        List<int[]> roads = new ArrayList<>(); // a, b, minutes, shut
        List<Integer> stations = new ArrayList<>();
        List<int[]> engines = new ArrayList<>(); // post, 0 ready 1 moving 2 out, ready at
        List<Integer> begun = new ArrayList<>();
        int reach = 8;
        int service = 30;
        int limit = 6;
        int minute;
        int r = 1;
        int calls;
        int late;
        int lost;
        int took;

        All copy() {
            All c = new All();
            c.weight = weight.clone();
            for (int[] x : roads) {
                c.roads.add(x.clone());
            }
            c.stations.addAll(stations);
            for (int[] x : engines) {
                c.engines.add(x.clone());
            }
            c.begun.addAll(begun);
            c.reach = reach;
            c.service = service;
            c.limit = limit;
            c.minute = minute;
            c.r = r;
            c.calls = calls;
            c.late = late;
            c.lost = lost;
            c.took = took;
            return c;
        }
    }

    static final class Fault extends Exception {
        private static final long serialVersionUID = 1;
        final int p;

        Fault(int p) {
            this.p = p;
        }
    }

    All w = new All();
    All kept;
    String text = "";
    List<Long> row = new ArrayList<>();

    private void tell(long... numbers) {
        row = new ArrayList<>();
        for (long n : numbers) {
            row.add(n);
        }
    }

    // ---- what the Terms say

    static boolean isNode(int a) {
        return a >= 0 && a < 12;
    }

    boolean isStation(int s) {
        return s >= 0 && s < w.stations.size();
    }

    boolean isEngine(int e) {
        return e >= 0 && e < w.engines.size();
    }

    private final TreeMap<String, int[]> measured = new TreeMap<>();

    /** FAR, with one road left out if leftOut is its place; kept, as it is asked often. */
    int way(int a, int b, int leftOut) {
        StringBuilder roads = new StringBuilder();
        for (int i = 0; i < w.roads.size(); i++) {
            int[] road = w.roads.get(i);
            if (road[3] == 0 && i != leftOut) {
                roads.append((char) ('0' + road[0])).append((char) ('0' + road[1])).append((char) ('0' + road[2]));
            }
        }
        roads.append('/').append((char) ('0' + a));
        return measured.computeIfAbsent(roads.toString(), key -> measure(a, leftOut))[b];
    }

    /** FAR by Bellman and Ford's way. */
    private int[] measure(int a, int leftOut) {
        int[] far = new int[12];
        Arrays.fill(far, 999);
        far[a] = 0;
        for (int round = 0; round < 12; round++) {
            for (int i = 0; i < w.roads.size(); i++) {
                int[] road = w.roads.get(i);
                if (road[3] == 0 && i != leftOut) {
                    far[road[1]] = Math.min(far[road[1]], far[road[0]] + road[2]);
                    far[road[0]] = Math.min(far[road[0]], far[road[1]] + road[2]);
                }
            }
        }
        return far;
    }

    int way(int a, int b) {
        return way(a, b, NONE);
    }

    int wayToStation(int s, int t) {
        return way(w.stations.get(s), w.stations.get(t));
    }

    boolean isReady(int e) {
        return w.engines.get(e)[1] == 0;
    }

    List<Integer> ready() {
        List<Integer> is = new ArrayList<>();
        for (int e = 0; e < w.engines.size(); e++) {
            if (isReady(e)) {
                is.add(e);
            }
        }
        return is;
    }

    int wayOfEngine(int e, int a) {
        return way(w.stations.get(w.engines.get(e)[0]), a);
    }

    List<Integer> postsNow() {
        List<Integer> posts = new ArrayList<>();
        for (int e : ready()) {
            posts.add(w.engines.get(e)[0]);
        }
        return posts;
    }

    /** Of each node, by how many engines at these stations it is reached. */
    int[] hits(List<Integer> posts, int reach, int leftOut) {
        int[] hits = new int[12];
        for (int s : posts) {
            for (int a = 0; a < 12; a++) {
                if (way(w.stations.get(s), a, leftOut) <= reach) {
                    hits[a]++;
                }
            }
        }
        return hits;
    }

    int weightOf(int[] hits, int least) {
        int sum = 0;
        for (int a = 0; a < 12; a++) {
            if (hits[a] >= least) {
                sum += w.weight[a];
            }
        }
        return sum;
    }

    int coverOf(List<Integer> posts) {
        return weightOf(hits(posts, w.reach, NONE), 1);
    }

    int doubleOf(List<Integer> posts) {
        return weightOf(hits(posts, w.reach, NONE), 2);
    }

    int all() {
        return Arrays.stream(w.weight).sum();
    }

    static List<Integer> bits(int bits) {
        List<Integer> is = new ArrayList<>();
        for (int i = 0; i < 31; i++) {
            if ((bits & (1 << i)) != 0) {
                is.add(i);
            }
        }
        return is;
    }

    int draw(int n) {
        w.r = w.r * 1103515245 + 12345;
        return (int) ((w.r & 0xffffffffL) / 65536 % n);
    }

    int lately() {
        int many = 0;
        for (int m : w.begun) {
            if (m >= w.minute - 59) {
                many++;
            }
        }
        return many;
    }

    int may() {
        return Math.max(0, w.limit - lately());
    }

    void begin(int e, int station, int minutes) {
        w.engines.set(e, new int[] {station, minutes > 0 ? 1 : 0, w.minute + minutes});
        w.begun.add(w.minute);
    }

    // ---- the land

    int sign(int v) {
        if (text.length() + 4 > 300) {
            return NONE;
        }
        text += "" + (char) (v >>> 24) + (char) (v >> 16 & 255) + (char) (v >> 8 & 255) + (char) (v & 255);
        return text.length();
    }

    boolean end(int n) {
        if (n < 0 || n > text.length()) {
            return false;
        }
        text = text.substring(0, n);
        return true;
    }

    private int at;

    private char next() throws Fault {
        if (at >= text.length()) {
            throw new Fault(text.length());
        }
        return text.charAt(at);
    }

    private void expect(char c) throws Fault {
        if (next() != c) {
            throw new Fault(at);
        }
        at++;
    }

    private int number(int least, int most) throws Fault {
        if ("0123456789".indexOf(next()) < 0) {
            throw new Fault(at);
        }
        int from = at;
        at++;
        if (at < text.length() && "0123456789".indexOf(text.charAt(at)) >= 0) {
            at++;
        }
        int n = Integer.parseInt(text.substring(from, at));
        if (n < least || n > most) {
            throw new Fault(at - 1);
        }
        return n;
    }

    private boolean more(int has, int most) throws Fault {
        if (at >= text.length() || text.charAt(at) != ',') {
            return false;
        }
        if (has == most) {
            throw new Fault(at);
        }
        at++;
        return true;
    }

    private int read(All into) throws Fault {
        at = 0;
        if (text.isEmpty()) {
            return 0;
        }
        int lines = 0;
        TreeMap<Integer, Integer> told = new TreeMap<>();
        do {
            if (lines > 0) {
                expect(';');
            }
            lines++;
            char kind = next();
            if ("rwse".indexOf(kind) < 0 || kind == 's' && !into.stations.isEmpty()
                    || kind == 'e' && (into.stations.isEmpty() || !into.engines.isEmpty())) {
                throw new Fault(at);
            }
            at++;
            if (kind == 'r') {
                int a = number(0, 11);
                expect('-');
                int b = number(0, 11);
                for (int[] road : into.roads) {
                    if (road[0] == a && road[1] == b || road[0] == b && road[1] == a) {
                        throw new Fault(at - 1);
                    }
                }
                if (a == b) {
                    throw new Fault(at - 1);
                }
                expect('=');
                into.roads.add(new int[] {a, b, number(1, 60), 0});
            } else if (kind == 'w') {
                int a = number(0, 11);
                if (told.containsKey(a)) {
                    throw new Fault(at - 1);
                }
                told.put(a, 1);
                expect('=');
                into.weight[a] = number(0, 99);
            } else if (kind == 's') {
                do {
                    int a = number(0, 11);
                    if (into.stations.contains(a)) {
                        throw new Fault(at - 1);
                    }
                    into.stations.add(a);
                } while (more(into.stations.size(), 8));
            } else {
                do {
                    into.engines.add(new int[] {number(0, into.stations.size() - 1), 0, 0});
                } while (more(into.engines.size(), 6));
            }
        } while (at < text.length());
        return lines;
    }

    int land() {
        All fresh = new All();
        fresh.reach = w.reach;
        fresh.service = w.service;
        fresh.limit = w.limit;
        fresh.r = w.r;
        int lines;
        try {
            lines = read(fresh);
        } catch (Fault f) {
            text = "";
            return -21 - f.p;
        }
        text = "";
        w = fresh;
        kept = null;
        return lines;
    }

    int reach(int r) {
        if (r < 1 || r > 60) {
            return NONE;
        }
        int was = w.reach;
        w.reach = r;
        return was;
    }

    int service(int s) {
        if (s < 1 || s > 240) {
            return NONE;
        }
        int was = w.service;
        w.service = s;
        return was;
    }

    int limit(int l) {
        if (l < 0 || l > 20) {
            return NONE;
        }
        int was = w.limit;
        w.limit = l;
        return was;
    }

    int shuts(int a, int b, boolean is) {
        if (!isNode(a) || !isNode(b)) {
            return NONE;
        }
        int shut = 0;
        int[] it = null;
        for (int[] road : w.roads) {
            shut += road[3];
            if (road[0] == a && road[1] == b || road[0] == b && road[1] == a) {
                it = road;
            }
        }
        if (it == null) {
            return -2;
        }
        if (it[3] == (is ? 1 : 0)) {
            return -3;
        }
        it[3] = is ? 1 : 0;
        return is ? shut + 1 : shut - 1;
    }

    int far(int a, int b) {
        return isNode(a) && isNode(b) ? way(a, b) : NONE;
    }

    int reached(int s) {
        if (!isStation(s)) {
            return NONE;
        }
        int[] hits = hits(List.of(s), w.reach, NONE);
        tell(weightOf(hits, 1));
        return bitsOf(hits);
    }

    private static int bitsOf(int[] hits) {
        int bits = 0;
        for (int a = 0; a < 12; a++) {
            if (hits[a] > 0) {
                bits += 1 << a;
            }
        }
        return bits;
    }

    int node(int a, int what) {
        if (!isNode(a)) {
            return NONE;
        }
        if (what == 0) {
            return w.weight[a];
        }
        if (what == 1) {
            return hits(postsNow(), w.reach, NONE)[a];
        }
        if (what == 2) {
            int best = NONE;
            for (int s = 0; s < w.stations.size(); s++) {
                int far = way(w.stations.get(s), a);
                if (far < 999 && (best == NONE || far < way(w.stations.get(best), a))) {
                    best = s;
                }
            }
            return best;
        }
        return what == 3 ? goes(a) : NONE;
    }

    int goes(int a) {
        int best = NONE;
        for (int e : ready()) {
            int far = wayOfEngine(e, a);
            if (far < 999 && (best == NONE || far < wayOfEngine(best, a))) {
                best = e;
            }
        }
        return best;
    }

    int engine(int e, int what) {
        if (!isEngine(e) || what < 0 || what > 2) {
            return NONE;
        }
        if (what == 2) {
            return isReady(e) ? 0 : w.engines.get(e)[2] - w.minute;
        }
        return w.engines.get(e)[what];
    }

    int station(int s) {
        return isStation(s) ? w.stations.get(s) : NONE;
    }

    // ---- calls

    int call(int a) {
        if (!isNode(a)) {
            return NONE;
        }
        int e = goes(a);
        w.calls++;
        if (e == NONE) {
            w.lost++;
            return -2;
        }
        int far = wayOfEngine(e, a);
        int late = far > w.reach ? 1 : 0;
        w.late += late;
        w.took += far;
        w.engines.get(e)[1] = 2;
        w.engines.get(e)[2] = w.minute + far + far + w.service;
        tell(far, late);
        return e;
    }

    int[] two(int a, int b) {
        List<int[]> ways = new ArrayList<>();
        for (int e : ready()) {
            for (int f : ready()) {
                int x = wayOfEngine(e, a);
                int y = wayOfEngine(f, b);
                if (e != f && x < 999 && y < 999) {
                    ways.add(new int[] {x + y, Math.max(x, y), e, f});
                }
            }
        }
        return ways.isEmpty() ? null : Collections.min(ways, Arrays::compare);
    }

    int pair(int a, int b) {
        if (!isNode(a) || !isNode(b)) {
            return NONE;
        }
        int[] two = two(a, b);
        if (two == null) {
            return -2;
        }
        tell(two[2], two[3], two[1]);
        return two[0];
    }

    int worstPair() {
        int[] worst = null;
        for (int a = 0; a < 12; a++) {
            for (int b = a; b < 12; b++) {
                if (w.weight[a] > 0 && w.weight[b] > 0) {
                    int[] two = two(a, b);
                    int minutes = two == null ? Integer.MAX_VALUE : two[0];
                    if (worst == null || minutes > worst[0]) {
                        worst = new int[] {minutes, a, b};
                    }
                }
            }
        }
        if (worst == null) {
            return -3;
        }
        tell(worst[1], worst[2]);
        return worst[0] == Integer.MAX_VALUE ? -2 : worst[0];
    }

    int minutePasses() {
        w.minute++;
        int became = 0;
        for (int[] e : w.engines) {
            if (e[1] != 0 && e[2] <= w.minute) {
                e[1] = 0;
                became++;
            }
        }
        return became;
    }

    int pass(int n) {
        if (n < 1 || n > 600) {
            return NONE;
        }
        int became = 0;
        for (int i = 0; i < n; i++) {
            became += minutePasses();
        }
        return became;
    }

    int seed(int seed) {
        int was = w.r;
        w.r = seed;
        return was;
    }

    int storms(int n, int c) {
        if (n < 1 || n > 600 || c < 0 || c > 1000) {
            return NONE;
        }
        int calls = 0;
        int late = 0;
        int lost = 0;
        for (int i = 0; i < n; i++) {
            minutePasses();
            if (draw(1000) < c && all() > 0) {
                List<Integer> lots = new ArrayList<>();
                for (int a = 0; a < 12; a++) {
                    lots.addAll(Collections.nCopies(w.weight[a], a));
                }
                calls++;
                int lateBefore = w.late;
                if (call(lots.get(draw(lots.size()))) == -2) {
                    lost++;
                }
                late += w.late - lateBefore;
            }
        }
        tell(late, lost);
        return calls;
    }

    // ---- what is reached

    int cover() {
        tell(doubleOf(postsNow()), all());
        return coverOf(postsNow());
    }

    int covers(int stations) {
        if (stations < 0 || stations >= 1 << w.stations.size()) {
            return NONE;
        }
        tell(bitsOf(hits(bits(stations), w.reach, NONE)));
        return coverOf(bits(stations));
    }

    int share() {
        return Float.floatToIntBits((float) coverOf(postsNow()) / (float) all());
    }

    int bestBits(int k, boolean isDouble) {
        int best = NONE;
        int most = NONE;
        for (int m = 0; m < 1 << w.stations.size(); m++) {
            if (bits(m).size() == k) {
                int worth = isDouble ? doubleOf(bits(m)) : coverOf(bits(m));
                if (worth > most) {
                    most = worth;
                    best = m;
                }
            }
        }
        return best;
    }

    int best(int k) {
        if (k < 0 || k > w.stations.size()) {
            return NONE;
        }
        int m = bestBits(k, false);
        tell(m, doubleOf(bits(m)));
        return coverOf(bits(m));
    }

    int nested() {
        List<Long> bests = new ArrayList<>();
        int often = 0;
        for (int k = 0; k <= w.stations.size(); k++) {
            bests.add((long) bestBits(k, false));
        }
        for (int k = 0; k < w.stations.size(); k++) {
            if ((bests.get(k) & bests.get(k + 1)) == bests.get(k)) {
                often++;
            }
        }
        row = bests;
        return often;
    }

    int greedy() {
        List<Integer> taken = new ArrayList<>();
        int less = 0;
        for (int k = 1; k <= w.stations.size(); k++) {
            int best = NONE;
            int most = NONE;
            for (int s = 0; s < w.stations.size(); s++) {
                if (!taken.contains(s)) {
                    List<Integer> with = new ArrayList<>(taken);
                    with.add(s);
                    if (coverOf(with) > most) {
                        most = coverOf(with);
                        best = s;
                    }
                }
            }
            taken.add(best);
            if (most < coverOf(bits(bestBits(k, false)))) {
                less++;
            }
        }
        row = new ArrayList<>();
        for (int s : taken) {
            row.add((long) s);
        }
        return less;
    }

    int dearest() {
        if (w.stations.isEmpty()) {
            return -2;
        }
        int most = NONE;
        int dearest = NONE;
        for (int s = 0; s < w.stations.size(); s++) {
            List<Integer> posts = postsNow();
            posts.removeAll(List.of(s));
            int less = coverOf(postsNow()) - coverOf(posts);
            if (less > most) {
                most = less;
                dearest = s;
            }
        }
        tell(most);
        return dearest;
    }

    int dearestRoad() {
        int least = Integer.MAX_VALUE;
        int answer = -2;
        for (int i = 0; i < w.roads.size(); i++) {
            int[] road = w.roads.get(i);
            int cover = weightOf(hits(postsNow(), w.reach, i), 1);
            if (road[3] == 0 && cover < least) {
                least = cover;
                answer = 100 * Math.min(road[0], road[1]) + Math.max(road[0], road[1]);
            }
        }
        if (answer >= 0) {
            tell(least);
        }
        return answer;
    }

    int least(int v) {
        if (v < 0) {
            return NONE;
        }
        for (int r = 1; r <= 60; r++) {
            int cover = weightOf(hits(postsNow(), r, NONE), 1);
            if (cover >= v) {
                tell(cover);
                return r;
            }
        }
        return -2;
    }

    int twice(int k) {
        if (k < 0 || k > w.stations.size()) {
            return NONE;
        }
        int m = bestBits(k, true);
        tell(m, coverOf(bits(m)));
        return doubleOf(bits(m));
    }

    int spread() {
        int sum = 0;
        int most = 0;
        int first = NONE;
        for (int a = 11; a >= 0; a--) {
            int far = 999;
            for (int e : ready()) {
                far = Math.min(far, wayOfEngine(e, a));
            }
            sum += w.weight[a] * far;
            if (w.weight[a] > 0 && far >= most) {
                most = far;
                first = a;
            }
        }
        tell(most, first);
        return sum;
    }

    // ---- states of engines out

    private List<Integer> postsWithout(int out) {
        List<Integer> posts = new ArrayList<>();
        for (int e = 0; e < w.engines.size(); e++) {
            if (!bits(out).contains(e)) {
                posts.add(w.engines.get(e)[0]);
            }
        }
        return posts;
    }

    int state(int out) {
        if (out < 0 || out >= 1 << w.engines.size()) {
            return NONE;
        }
        tell(doubleOf(postsWithout(out)));
        return coverOf(postsWithout(out));
    }

    int worst(int k) {
        if (k < 0 || k > w.engines.size()) {
            return NONE;
        }
        TreeMap<Integer, List<Integer>> byCover = new TreeMap<>();
        for (int out = 0; out < 1 << w.engines.size(); out++) {
            if (bits(out).size() == k) {
                byCover.computeIfAbsent(coverOf(postsWithout(out)), c -> new ArrayList<>()).add(out);
            }
        }
        List<Integer> worst = byCover.firstEntry().getValue();
        tell(worst.get(0), worst.size());
        return byCover.firstKey();
    }

    int states(int v) {
        if (v < 0) {
            return NONE;
        }
        long[] byK = new long[w.engines.size() + 1];
        int all = 0;
        for (int out = 0; out < 1 << w.engines.size(); out++) {
            if (coverOf(postsWithout(out)) >= v) {
                byK[bits(out).size()]++;
                all++;
            }
        }
        tell(byK);
        return all;
    }

    int expected(List<Integer> posts, int p) {
        int[] hits = hits(posts, w.reach, NONE);
        int sum = 0;
        for (int a = 0; a < 12; a++) {
            int f = 0;
            for (int j = 0; j < hits[a]; j++) {
                f = f + (1000 - f) * (1000 - p) / 1000;
            }
            sum += w.weight[a] * f;
        }
        return sum;
    }

    int expects(int p) {
        return p < 0 || p > 1000 ? NONE : expected(postsNow(), p);
    }

    int bestFor(int p) {
        if (p < 0 || p > 1000) {
            return NONE;
        }
        int engines = ready().size();
        int stations = w.stations.size();
        if (engines == 0 || stations == 0) {
            return -2;
        }
        int most = NONE;
        List<Integer> best = null;
        for (List<Integer> posts : rows(engines, stations)) {
            boolean rises = true;
            for (int i = 1; i < engines; i++) {
                rises &= posts.get(i - 1) <= posts.get(i);
            }
            if (rises && expected(posts, p) > most) {
                most = expected(posts, p);
                best = posts;
            }
        }
        row = new ArrayList<>();
        for (int s : best) {
            row.add((long) s);
        }
        row.add((long) expected(postsNow(), p));
        return most;
    }

    /** All rows of so many stations, the first one first. */
    static List<List<Integer>> rows(int size, int stations) {
        List<List<Integer>> rows = new ArrayList<>();
        rows.add(List.of());
        for (int i = 0; i < size; i++) {
            List<List<Integer>> longer = new ArrayList<>();
            for (List<Integer> r : rows) {
                for (int s = 0; s < stations; s++) {
                    List<Integer> with = new ArrayList<>(r);
                    with.add(s);
                    longer.add(with);
                }
            }
            rows = longer;
        }
        return rows;
    }

    // ---- moves

    int greatest() {
        int most = 0;
        for (int m = 0; m < 1 << w.stations.size(); m++) {
            if (bits(m).size() <= ready().size()) {
                most = Math.max(most, coverOf(bits(m)));
            }
        }
        return most;
    }

    int regret() {
        tell(coverOf(postsNow()), greatest());
        return greatest() - coverOf(postsNow());
    }

    /** COVER, ENGINES that move, MINUTES of the best row of posts, which is put into goals. */
    private int[] moving(int n, List<Integer> goals) {
        List<Integer> posts = postsNow();
        int stations = w.stations.size();
        int[][] ways = new int[stations][stations];
        int[] covers = new int[1 << stations];
        for (int s = 0; s < stations; s++) {
            for (int t = 0; t < stations; t++) {
                ways[s][t] = wayToStation(s, t);
            }
        }
        for (int m = 0; m < 1 << stations; m++) {
            covers[m] = coverOf(bits(m));
        }
        int[] best = null;
        for (List<Integer> r : rows(posts.size(), stations)) {
            int movers = 0;
            int minutes = 0;
            int taken = 0;
            boolean can = true;
            for (int i = 0; i < posts.size(); i++) {
                int way = ways[posts.get(i)][r.get(i)];
                can &= way < 999;
                minutes += way;
                movers += r.get(i).equals(posts.get(i)) ? 0 : 1;
                taken |= 1 << r.get(i);
            }
            int[] it = {-covers[taken], movers, minutes};
            if (can && movers <= n && (best == null || Arrays.compare(it, best) < 0)) {
                best = it;
                goals.clear();
                goals.addAll(r);
            }
        }
        best[0] = -best[0];
        return best;
    }

    int moves(int n) {
        if (n < 0 || n > 6) {
            return NONE;
        }
        List<Integer> goals = new ArrayList<>();
        int[] best = moving(n, goals);
        tell(best[2]);
        for (int i = 0; i < goals.size(); i++) {
            int e = ready().get(i);
            if (goals.get(i) != w.engines.get(e)[0]) {
                row.add((long) e);
                row.add((long) goals.get(i));
            }
        }
        return best[0];
    }

    int up(int n) {
        if (n < 0 || n > 6) {
            return NONE;
        }
        List<Integer> goals = new ArrayList<>();
        List<Integer> ready = ready();
        int[] best = moving(Math.min(n, may()), goals);
        for (int i = 0; i < goals.size(); i++) {
            int e = ready.get(i);
            int old = w.engines.get(e)[0];
            if (goals.get(i) != old) {
                begin(e, goals.get(i), wayToStation(old, goals.get(i)));
            }
        }
        tell(best[0], coverOf(postsNow()));
        return best[1];
    }

    int post(int e, int s) {
        if (!isEngine(e) || !isStation(s)) {
            return NONE;
        }
        if (!isReady(e)) {
            return -2;
        }
        int old = w.engines.get(e)[0];
        int way = wayToStation(old, s);
        if (old == s || way == 999) {
            return -3;
        }
        if (may() < 1) {
            return -4;
        }
        begin(e, s, way);
        return way;
    }

    int swap(int e, int f) {
        if (!isEngine(e) || !isEngine(f) || e == f) {
            return NONE;
        }
        if (!isReady(e) || !isReady(f)) {
            return -2;
        }
        int s = w.engines.get(e)[0];
        int t = w.engines.get(f)[0];
        int way = wayToStation(s, t);
        if (s == t || way == 999) {
            return -3;
        }
        if (may() < 2) {
            return -4;
        }
        begin(e, t, way);
        begin(f, s, way);
        return way;
    }

    int left() {
        if (w.limit == 0) {
            tell(NONE);
            return 0;
        }
        int wait = 0;
        int minute = w.minute;
        while (may() == 0) {
            w.minute++;
            wait++;
        }
        w.minute = minute;
        tell(wait);
        return may();
    }

    int needs() {
        for (int n = 0; n <= 6; n++) {
            if (moving(n, new ArrayList<>())[0] == greatest()) {
                return n;
            }
        }
        return -2;
    }

    // ---- kept, counted

    int keeps() {
        kept = w.copy();
        return w.minute;
    }

    int back() {
        if (kept == null) {
            return -2;
        }
        w = kept.copy();
        return w.minute;
    }

    private int inMode(int mode) {
        int bits = 0;
        for (int e = 0; e < w.engines.size(); e++) {
            if (w.engines.get(e)[1] == mode) {
                bits |= 1 << e;
            }
        }
        return bits;
    }

    int count(int what) {
        int[] counts = {w.stations.size(), w.engines.size(), inMode(0), inMode(2), inMode(1), w.minute,
            w.calls, w.late, w.lost, w.took, w.begun.size(), w.roads.size(), w.r, row.size(), text.length()};
        return what >= 0 && what < counts.length ? counts[what] : NONE;
    }
}
