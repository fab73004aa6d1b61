import java.util.Arrays;
import java.util.NoSuchElementException;

/**
 * Engines out on calls, and those left moved up so that most is reached in time.
 * Words in capitals in the comments are those of the document's Terms.
 */
public final class EnginesOut {
    public static final int NONE = -1;

    private static final int NODES = 12;
    private static final int ALL_NODES = 4095;
    private static final int MOST_STATIONS = 8;
    private static final int MOST_ENGINES = 6;
    private static final int MOST_ROADS = 66;
    private static final int MOST_SIGNS = 300;
    private static final int MOST_WEIGHT = 99;
    private static final int MOST_MINUTES = 60;
    private static final int MOST_SERVICE = 240;
    private static final int MOST_LIMIT = 20;
    private static final int MOST_PASSED = 600;
    private static final int LIMIT_MINUTES = 60;
    private static final int THOUSAND = 1000;
    private static final int NO_WAY = 999;
    private static final int FAULT_BASE = -21;
    private static final int READY = 0;
    private static final int MOVING = 1;
    private static final int OUT = 2;
    private static final int NOT_A_NUMBER = 0x7fc00000;

    private final Row told = new Row();
    private final Reader reader = new Reader();
    private final World now = new World();
    private final World kept = new World();
    private final Sight sight = new Sight();
    private final Couple couple = new Couple();
    private final Chances chances = new Chances();
    // By far the largest, and many objects never ask for moves: made when first used.
    private Planner planner = null;
    private boolean isKept = false;

    public EnginesOut() {
    }

    // ---- the land

    public int sign(int v) {
        return reader.text.append(v);
    }

    public boolean end(int n) {
        return reader.text.cutTo(n);
    }

    public int land() {
        int lines = reader.read();
        reader.text.cutTo(0);
        if (lines < 0) {
            return lines;
        }
        now.land.takeOver(reader.draft);
        now.crew.begin(reader.posts, reader.engines);
        isKept = false;
        return lines;
    }

    public int reach(int r) {
        if (r < 1 || r > MOST_MINUTES) {
            return NONE;
        }
        int was = now.reach;
        now.reach = r;
        return was;
    }

    public int service(int s) {
        if (s < 1 || s > MOST_SERVICE) {
            return NONE;
        }
        int was = now.service;
        now.service = s;
        return was;
    }

    public int limit(int l) {
        if (l < 0 || l > MOST_LIMIT) {
            return NONE;
        }
        int was = now.limit;
        now.limit = l;
        return was;
    }

    public int shuts(int a, int b, boolean is) {
        if (!isNode(a) || !isNode(b)) {
            return NONE;
        }
        int road = now.land.roadOf(a, b);
        if (road == NONE) {
            return -2;
        }
        if (now.land.isShut[road] == is) {
            return -3;
        }
        now.land.isShut[road] = is;
        now.land.measure(now.land.ways, NONE);
        return now.land.shutRoads();
    }

    public int far(int a, int b) {
        if (!isNode(a) || !isNode(b)) {
            return NONE;
        }
        return now.land.wayOf(a, b);
    }

    public int reached(int station) {
        if (!isStation(station)) {
            return NONE;
        }
        look();
        int nodes = sight.nodesOf[station];
        told.tell(now.land.weigh(nodes));
        return nodes;
    }

    public int node(int a, int what) {
        if (!isNode(a)) {
            return NONE;
        }
        switch (what) {
            case 0:
                return now.land.weights[a];
            case 1:
                return readyThatReach(a);
            case 2:
                return now.land.nearestStation(a);
            case 3:
                return now.whoGoes(a);
            default:
                return NONE;
        }
    }

    public int engine(int e, int what) {
        if (!isEngine(e)) {
            return NONE;
        }
        switch (what) {
            case 0:
                return now.crew.posts[e];
            case 1:
                return now.crew.modes[e];
            case 2:
                return now.crew.waitOf(e);
            default:
                return NONE;
        }
    }

    public int station(int s) {
        return now.land.placeOf(s);
    }

    // ---- calls

    public int call(int node) {
        if (!isNode(node)) {
            return NONE;
        }
        int lateBefore = now.crew.late;
        int drivenBefore = now.crew.driven;
        int goes = now.send(node);
        if (goes == NONE) {
            return -2;
        }
        told.tell(now.crew.driven - drivenBefore, now.crew.late - lateBefore);
        return goes;
    }

    public int pair(int a, int b) {
        if (!isNode(a) || !isNode(b)) {
            return NONE;
        }
        if (!couple.find(now, a, b)) {
            return -2;
        }
        told.tell(couple.toFirst, couple.toSecond);
        told.add(couple.longer);
        return couple.together;
    }

    public int worstPair() {
        int worst = NONE;
        int worstA = NONE;
        int worstB = NONE;
        for (int a = 0; a < NODES; a++) {
            for (int b = a; b < NODES; b++) {
                if (now.land.weights[a] > 0 && now.land.weights[b] > 0) {
                    // Two of which one has no way count as more than any two ways together.
                    int minutes = couple.find(now, a, b) ? couple.together : 2 * NO_WAY;
                    if (minutes > worst) {
                        worst = minutes;
                        worstA = a;
                        worstB = b;
                    }
                }
            }
        }
        if (worst == NONE) {
            return -3;
        }
        told.tell(worstA, worstB);
        return worst == 2 * NO_WAY ? -2 : worst;
    }

    public int pass(int n) {
        if (n < 1 || n > MOST_PASSED) {
            return NONE;
        }
        int became = 0;
        for (int i = 0; i < n; i++) {
            became += now.crew.nextMinute();
        }
        return became;
    }

    public int seed(int seed) {
        int was = now.random;
        now.random = seed;
        return was;
    }

    public int storms(int n, int c) {
        if (n < 1 || n > MOST_PASSED || c < 0 || c > THOUSAND) {
            return NONE;
        }
        int callsBefore = now.crew.calls;
        int lateBefore = now.crew.late;
        int lostBefore = now.crew.lost;
        for (int i = 0; i < n; i++) {
            now.crew.nextMinute();
            if (now.draw(THOUSAND) < c) {
                now.callSomewhere();
            }
        }
        told.tell(now.crew.late - lateBefore, now.crew.lost - lostBefore);
        return now.crew.calls - callsBefore;
    }

    // ---- what is reached

    public int cover() {
        int covered = coverNow();
        told.tell(sight.doubled(now.land), now.land.weigh(ALL_NODES));
        return covered;
    }

    public int covers(int stations) {
        if (stations < 0 || stations >= 1 << now.land.stations) {
            return NONE;
        }
        look();
        sight.putStations(stations);
        told.tell(sight.once);
        return sight.covered(now.land);
    }

    public int share() {
        return quotientBits(coverNow(), now.land.weigh(ALL_NODES));
    }

    public int best(int k) {
        if (k < 0 || k > now.land.stations) {
            return NONE;
        }
        look();
        int stations = sight.bestStations(now.land, k, false);
        sight.putStations(stations);
        told.tell(stations, sight.doubled(now.land));
        return sight.covered(now.land);
    }

    public int nested() {
        look();
        told.clear();
        int often = 0;
        int before = 0;
        for (int k = 0; k <= now.land.stations; k++) {
            int stations = sight.bestStations(now.land, k, false);
            if (k > 0 && (before & ~stations) == 0) {
                often++;
            }
            told.add(stations);
            before = stations;
        }
        return often;
    }

    public int greedy() {
        look();
        told.clear();
        int taken = 0;
        int less = 0;
        for (int k = 1; k <= now.land.stations; k++) {
            int next = sight.bestBeside(now.land, taken);
            taken |= 1 << next;
            told.add(next);
            if (sight.coverOf(now.land, taken) < sight.coverOf(now.land, sight.bestStations(now.land, k, false))) {
                less++;
            }
        }
        return less;
    }

    public int dearest() {
        if (now.land.stations == 0) {
            return -2;
        }
        int covered = coverNow();
        int ready = now.crew.inMode(READY);
        int most = NONE;
        int dearest = NONE;
        for (int s = 0; s < now.land.stations; s++) {
            sight.putEngines(now.crew, ready & ~now.crew.postedAt(s));
            int loss = covered - sight.covered(now.land);
            if (loss > most) {
                most = loss;
                dearest = s;
            }
        }
        told.tell(most);
        return dearest;
    }

    public int dearestRoad() {
        int ready = now.crew.inMode(READY);
        int least = Integer.MAX_VALUE;
        int dearest = NONE;
        for (int road = 0; road < now.land.roads; road++) {
            if (!now.land.isShut[road]) {
                now.land.measure(sight.ways, road);
                sight.look(now.land, sight.ways, now.reach);
                sight.putEngines(now.crew, ready);
                if (sight.covered(now.land) < least) {
                    least = sight.covered(now.land);
                    dearest = road;
                }
            }
        }
        if (dearest == NONE) {
            return -2;
        }
        told.tell(least);
        return 100 * now.land.lesser[dearest] + now.land.greater[dearest];
    }

    public int least(int v) {
        if (v < 0) {
            return NONE;
        }
        int ready = now.crew.inMode(READY);
        for (int r = 1; r <= MOST_MINUTES; r++) {
            sight.look(now.land, now.land.ways, r);
            sight.putEngines(now.crew, ready);
            if (sight.covered(now.land) >= v) {
                told.tell(sight.covered(now.land));
                return r;
            }
        }
        return -2;
    }

    public int twice(int k) {
        if (k < 0 || k > now.land.stations) {
            return NONE;
        }
        look();
        int stations = sight.bestStations(now.land, k, true);
        sight.putStations(stations);
        told.tell(stations, sight.covered(now.land));
        return sight.doubled(now.land);
    }

    public int spread() {
        int sum = 0;
        int farthest = NONE;
        int first = NONE;
        for (int a = 0; a < NODES; a++) {
            int weight = now.land.weights[a];
            int way = now.nearestWay(a);
            sum += weight * way;
            if (weight > 0 && way > farthest) {
                farthest = way;
                first = a;
            }
        }
        told.tell(Math.max(farthest, 0), first);
        return sum;
    }

    // ---- states of engines out

    public int state(int out) {
        if (out < 0 || out >= 1 << now.crew.size) {
            return NONE;
        }
        look();
        int covered = coverWithout(out);
        told.tell(sight.doubled(now.land));
        return covered;
    }

    public int worst(int k) {
        if (k < 0 || k > now.crew.size) {
            return NONE;
        }
        look();
        int least = Integer.MAX_VALUE;
        int worst = 0;
        int like = 0;
        for (int out = 0; out < 1 << now.crew.size; out++) {
            if (Integer.bitCount(out) == k) {
                int covered = coverWithout(out);
                if (covered < least) {
                    least = covered;
                    worst = out;
                    like = 0;
                }
                if (covered == least) {
                    like++;
                }
            }
        }
        told.tell(worst, like);
        return least;
    }

    public int states(int v) {
        if (v < 0) {
            return NONE;
        }
        look();
        told.clear();
        int all = 0;
        for (int k = 0; k <= now.crew.size; k++) {
            int some = statesOf(k, v);
            told.add(some);
            all += some;
        }
        return all;
    }

    public int expects(int p) {
        if (p < 0 || p > THOUSAND) {
            return NONE;
        }
        look();
        chances.prepare(sight, p);
        return chances.expectedNow(now);
    }

    public int bestFor(int p) {
        if (p < 0 || p > THOUSAND) {
            return NONE;
        }
        int engines = Integer.bitCount(now.crew.inMode(READY));
        if (now.land.stations == 0 || engines == 0) {
            return -2;
        }
        look();
        chances.prepare(sight, p);
        int most = chances.seekBest(now.land, engines);
        told.clear();
        for (int i = 0; i < engines; i++) {
            told.add(chances.best[i]);
        }
        told.add(chances.expectedNow(now));
        return most;
    }

    // ---- moves

    public int regret() {
        int covered = coverNow();
        int greatest = greatestCover();
        told.tell(covered, greatest);
        return greatest - covered;
    }

    public int moves(int n) {
        if (n < 0 || n > MOST_ENGINES) {
            return NONE;
        }
        Planner plan = planned();
        plan.choose(n);
        told.tell(plan.minutes);
        for (int i = 0; i < plan.size; i++) {
            if (plan.goals[i] != plan.posts[i]) {
                told.add(plan.engines[i]);
                told.add(plan.goals[i]);
            }
        }
        return plan.covered;
    }

    public int up(int n) {
        if (n < 0 || n > MOST_ENGINES) {
            return NONE;
        }
        Planner plan = planned();
        plan.choose(Math.min(n, now.mayMove()));
        int moved = 0;
        for (int i = 0; i < plan.size; i++) {
            if (plan.goals[i] != plan.posts[i]) {
                now.crew.move(plan.engines[i], plan.goals[i], plan.wayTo(i, plan.goals[i]));
                moved++;
            }
        }
        told.tell(plan.covered, coverNow());
        return moved;
    }

    public int post(int e, int station) {
        if (!isEngine(e) || !isStation(station)) {
            return NONE;
        }
        if (now.crew.modes[e] != READY) {
            return -2;
        }
        int old = now.crew.posts[e];
        int way = now.land.wayOfStations(old, station);
        if (way == NO_WAY || old == station) {
            return -3;
        }
        if (now.mayMove() < 1) {
            return -4;
        }
        now.crew.move(e, station, way);
        return way;
    }

    public int swap(int e, int f) {
        if (!isEngine(e) || !isEngine(f) || e == f) {
            return NONE;
        }
        if (now.crew.modes[e] != READY || now.crew.modes[f] != READY) {
            return -2;
        }
        int postOfE = now.crew.posts[e];
        int postOfF = now.crew.posts[f];
        int way = now.land.wayOfStations(postOfE, postOfF);
        if (way == NO_WAY || postOfE == postOfF) {
            return -3;
        }
        if (now.mayMove() < 2) {
            return -4;
        }
        now.crew.move(e, postOfF, way);
        now.crew.move(f, postOfE, way);
        return way;
    }

    public int left() {
        int may = now.mayMove();
        if (may > 0) {
            told.tell(0);
        } else {
            told.tell(now.crew.waitForMove(now.limit));
        }
        return may;
    }

    public int needs() {
        Planner plan = planned();
        int greatest = greatestCover();
        for (int n = 0; n <= MOST_ENGINES; n++) {
            plan.choose(n);
            if (plan.covered == greatest) {
                return n;
            }
        }
        return -2;
    }

    // ---- kept, counted

    public int keeps() {
        kept.takeOver(now);
        isKept = true;
        return now.crew.minute;
    }

    public int back() {
        if (!isKept) {
            return -2;
        }
        now.takeOver(kept);
        return now.crew.minute;
    }

    public int count(int what) {
        switch (what) {
            case 0:
                return now.land.stations;
            case 1:
                return now.crew.size;
            case 2:
                return now.crew.inMode(READY);
            case 3:
                return now.crew.inMode(OUT);
            case 4:
                return now.crew.inMode(MOVING);
            case 5:
                return now.crew.minute;
            case 6:
                return now.crew.calls;
            case 7:
                return now.crew.late;
            case 8:
                return now.crew.lost;
            case 9:
                return now.crew.driven;
            case 10:
                return now.crew.moved;
            case 11:
                return now.land.roads;
            case 12:
                return now.random;
            case 13:
                return told.size;
            case 14:
                return reader.text.size;
            default:
                return NONE;
        }
    }

    public long row(int i) throws NoSuchElementException {
        if (i < 0 || i >= told.size) {
            throw new NoSuchElementException();
        }
        return told.numbers[i];
    }

    // ---- what several calls share

    private static boolean isNode(int a) {
        return a >= 0 && a < NODES;
    }

    private boolean isStation(int s) {
        return s >= 0 && s < now.land.stations;
    }

    private boolean isEngine(int e) {
        return e >= 0 && e < now.crew.size;
    }

    private void look() {
        sight.look(now.land, now.land.ways, now.reach);
    }

    private int coverNow() {
        look();
        sight.putEngines(now.crew, now.crew.inMode(READY));
        return sight.covered(now.land);
    }

    private int coverWithout(int out) {
        int all = (1 << now.crew.size) - 1;
        sight.putEngines(now.crew, all & ~out);
        return sight.covered(now.land);
    }

    /** A further engine never covers less, so as many stations as there can be are the best. */
    private int greatestCover() {
        look();
        int engines = Integer.bitCount(now.crew.inMode(READY));
        int stations = Math.min(engines, now.land.stations);
        return sight.coverOf(now.land, sight.bestStations(now.land, stations, false));
    }

    private int readyThatReach(int a) {
        int many = 0;
        for (int e = 0; e < now.crew.size; e++) {
            if (now.readyWay(e, a) <= now.reach) {
                many++;
            }
        }
        return many;
    }

    private int statesOf(int k, int v) {
        int some = 0;
        for (int out = 0; out < 1 << now.crew.size; out++) {
            if (Integer.bitCount(out) == k && coverWithout(out) >= v) {
                some++;
            }
        }
        return some;
    }

    private Planner planned() {
        Planner plan = planner;
        if (plan == null) {
            plan = new Planner();
            planner = plan;
        }
        look();
        plan.prepare(now, sight);
        return plan;
    }

    /**
     * The bits of the float that part by whole is, of 0 <= part <= whole; in whole numbers,
     * as the language has no way from a float to its bits.
     */
    private static int quotientBits(int part, int whole) {
        if (whole <= 0) {
            return NOT_A_NUMBER;
        }
        if (part <= 0) {
            return 0;
        }
        int shift = 0;
        while (shift < 31 && (long) part << shift < whole) {
            shift++;
        }
        long scaled = (long) part << (shift + 23);
        long mantissa = scaled / whole;
        // The nearest; none lies just between two floats, as whole has no 24 bits.
        if (2 * (scaled % whole) > whole) {
            mantissa++;
        }
        return (int) (((long) (127 - shift) << 23) + mantissa - (1L << 23));
    }

    /** THE TEXT. */
    private static final class Text {
        final int[] signs = new int[MOST_SIGNS];
        int size = 0;

        int append(int v) {
            if (size < 0 || size + 4 > MOST_SIGNS) {
                return NONE;
            }
            for (int shift = 24; shift >= 0; shift -= 8) {
                signs[size] = (v >>> shift) & 255;
                size++;
            }
            return size;
        }

        boolean cutTo(int n) {
            if (n < 0 || n > size) {
                return false;
            }
            size = n;
            return true;
        }

        /** NONE behind its end. */
        int signAt(int p) {
            return p >= 0 && p < size ? signs[p] : NONE;
        }
    }

    /** The ROW. */
    private static final class Row {
        /** The longest is that of moves(): MINUTES, and two numbers for each ENGINE. */
        private static final int MOST = 1 + 2 * MOST_ENGINES;

        final long[] numbers = new long[MOST];
        int size = 0;

        void clear() {
            size = 0;
        }

        void add(long number) {
            if (size >= 0 && size < MOST) {
                numbers[size] = number;
                size++;
            }
        }

        void tell(long number) {
            clear();
            add(number);
        }

        void tell(long first, long second) {
            tell(first);
            add(second);
        }
    }

    /** Reads the land that THE TEXT tells into a draft, so that a refused one changes nothing. */
    private static final class Reader {
        final Text text = new Text();
        final Land draft = new Land();
        final int[] posts = new int[MOST_ENGINES];
        int engines = 0;
        private int at = 0;
        private int fault = NONE;
        private int weighed = 0;

        /** How many LINES, or -21 - p. */
        int read() {
            at = 0;
            fault = NONE;
            weighed = 0;
            engines = 0;
            draft.empty();
            int lines = 0;
            boolean more = text.size > 0;
            while (more && lines < MOST_SIGNS) {
                readLine();
                lines++;
                more = fault == NONE && at < text.size;
                if (more) {
                    take(';');
                }
            }
            draft.measure(draft.ways, NONE);
            return fault == NONE ? lines : FAULT_BASE - fault;
        }

        private void readLine() {
            if (fault != NONE) {
                return;
            }
            switch (text.signAt(at)) {
                case 'r':
                    at++;
                    readRoad();
                    break;
                case 'w':
                    at++;
                    readWeight();
                    break;
                case 's':
                    readStations();
                    break;
                case 'e':
                    readEngines();
                    break;
                default:
                    refuse(at);
                    break;
            }
        }

        private void readRoad() {
            int a = takeNumber(0, NODES - 1);
            take('-');
            int b = takeNumber(0, NODES - 1);
            if (a == b || draft.roadOf(a, b) != NONE) {
                refuse(at - 1);
            }
            take('=');
            int minutes = takeNumber(1, MOST_MINUTES);
            if (fault == NONE) {
                draft.addRoad(a, b, minutes);
            }
        }

        private void readWeight() {
            int a = takeNumber(0, NODES - 1);
            if (fault == NONE && (weighed >> a & 1) == 1) {
                refuse(at - 1);
            }
            take('=');
            int weight = takeNumber(0, MOST_WEIGHT);
            if (fault == NONE && isNode(a)) {
                weighed |= 1 << a;
                draft.weights[a] = weight;
            }
        }

        private void readStations() {
            if (draft.stations > 0) {
                refuse(at);
                return;
            }
            boolean more = true;
            for (int i = 0; more && i < MOST_STATIONS; i++) {
                // Over the s, or over the , behind the one before.
                at++;
                int a = takeNumber(0, NODES - 1);
                if (draft.isStationAt(a)) {
                    refuse(at - 1);
                }
                if (fault == NONE) {
                    draft.places[i] = a;
                    draft.stations = i + 1;
                }
                more = isCommaNext();
            }
        }

        private void readEngines() {
            if (draft.stations == 0 || engines > 0) {
                refuse(at);
                return;
            }
            boolean more = true;
            for (int i = 0; more && i < MOST_ENGINES; i++) {
                at++;
                int s = takeNumber(0, draft.stations - 1);
                if (fault == NONE) {
                    posts[i] = s;
                    engines = i + 1;
                }
                more = isCommaNext();
            }
        }

        /** A , behind the last that there may be is left, and so refused as any sign that is no ; is. */
        private boolean isCommaNext() {
            return fault == NONE && text.signAt(at) == ',';
        }

        private boolean isDigitNext() {
            int sign = text.signAt(at);
            return sign >= '0' && sign <= '9';
        }

        private void take(int sign) {
            if (fault != NONE) {
                return;
            }
            if (text.signAt(at) == sign) {
                at++;
            } else {
                refuse(at);
            }
        }

        /** A number of one or two digits; NONE with a fault at its last digit if it is none such. */
        private int takeNumber(int least, int most) {
            if (fault != NONE) {
                return NONE;
            }
            if (!isDigitNext()) {
                refuse(at);
                return NONE;
            }
            int number = text.signAt(at) - '0';
            at++;
            if (isDigitNext()) {
                number = 10 * number + text.signAt(at) - '0';
                at++;
            }
            if (number < least || number > most) {
                refuse(at - 1);
                return NONE;
            }
            return number;
        }

        /** The first fault stays. */
        private void refuse(int p) {
            if (fault == NONE) {
                fault = p;
            }
        }
    }

    /** NODES, ROADS and STATIONS. */
    private static final class Land {
        final int[] weights = new int[NODES];
        final int[] lesser = new int[MOST_ROADS];
        final int[] greater = new int[MOST_ROADS];
        final int[] lengths = new int[MOST_ROADS];
        final boolean[] isShut = new boolean[MOST_ROADS];
        /** FAR of a and b at NODES * a + b. */
        final int[] ways = new int[NODES * NODES];
        final int[] places = new int[MOST_STATIONS];
        int roads = 0;
        int stations = 0;

        Land() {
            Arrays.fill(ways, NO_WAY);
            for (int a = 0; a < NODES; a++) {
                ways[NODES * a + a] = 0;
            }
        }

        void empty() {
            Arrays.fill(weights, 0);
            roads = 0;
            stations = 0;
        }

        void takeOver(Land other) {
            System.arraycopy(other.weights, 0, weights, 0, NODES);
            System.arraycopy(other.ways, 0, ways, 0, NODES * NODES);
            System.arraycopy(other.places, 0, places, 0, MOST_STATIONS);
            roads = other.roads;
            stations = other.stations;
            for (int road = 0; road < MOST_ROADS; road++) {
                lesser[road] = other.lesser[road];
                greater[road] = other.greater[road];
                lengths[road] = other.lengths[road];
                isShut[road] = other.isShut[road];
            }
        }

        void addRoad(int a, int b, int minutes) {
            if (roads >= 0 && roads < MOST_ROADS) {
                lesser[roads] = Math.min(a, b);
                greater[roads] = Math.max(a, b);
                lengths[roads] = minutes;
                isShut[roads] = false;
                roads++;
            }
        }

        int roadOf(int a, int b) {
            int low = Math.min(a, b);
            int high = Math.max(a, b);
            for (int road = 0; road < roads; road++) {
                if (lesser[road] == low && greater[road] == high) {
                    return road;
                }
            }
            return NONE;
        }

        int shutRoads() {
            int many = 0;
            for (int road = 0; road < roads; road++) {
                if (isShut[road]) {
                    many++;
                }
            }
            return many;
        }

        /** FAR of all NODES by OPEN ROADS but one that is left out (NONE: none is). */
        void measure(int[] into, int leftOut) {
            if (into.length < NODES * NODES) {
                return;
            }
            Arrays.fill(into, NO_WAY);
            for (int a = 0; a < NODES; a++) {
                into[NODES * a + a] = 0;
            }
            for (int road = 0; road < roads; road++) {
                if (!isShut[road] && road != leftOut) {
                    into[NODES * lesser[road] + greater[road]] = lengths[road];
                    into[NODES * greater[road] + lesser[road]] = lengths[road];
                }
            }
            for (int by = 0; by < NODES; by++) {
                shorten(into, by);
            }
        }

        private static void shorten(int[] into, int by) {
            for (int a = 0; a < NODES; a++) {
                int start = into[NODES * a + by];
                if (start < NO_WAY) {
                    for (int b = 0; b < a; b++) {
                        int way = start + into[NODES * by + b];
                        if (way < into[NODES * a + b]) {
                            into[NODES * a + b] = way;
                            into[NODES * b + a] = way;
                        }
                    }
                }
            }
        }

        int wayOf(int a, int b) {
            return isNode(a) && isNode(b) ? ways[NODES * a + b] : NO_WAY;
        }

        int wayOfStations(int s, int t) {
            return wayOf(placeOf(s), placeOf(t));
        }

        /** NODE of a STATION; NONE: there is no such. */
        int placeOf(int s) {
            return s >= 0 && s < stations ? places[s] : NONE;
        }

        boolean isStationAt(int a) {
            for (int s = 0; s < stations; s++) {
                if (places[s] == a) {
                    return true;
                }
            }
            return false;
        }

        int nearestStation(int a) {
            int nearest = NONE;
            int least = NO_WAY;
            for (int s = 0; s < stations; s++) {
                int way = wayOf(places[s], a);
                if (way < least) {
                    least = way;
                    nearest = s;
                }
            }
            return nearest;
        }

        /** WEIGHTS of NODES (bits) together. */
        int weigh(int nodes) {
            int sum = 0;
            for (int a = 0; a < NODES; a++) {
                if ((nodes >> a & 1) == 1) {
                    sum += weights[a];
                }
            }
            return sum;
        }
    }

    /** ENGINES, MINUTE, and what was called and moved. */
    private static final class Crew {
        final int[] posts = new int[MOST_ENGINES];
        final int[] modes = new int[MOST_ENGINES];
        final int[] readyAt = new int[MOST_ENGINES];
        /** MINUTES in which the last moves began, the latest last: LIMIT never lets more count. */
        final int[] begun = new int[MOST_LIMIT];
        int size = 0;
        int beginnings = 0;
        int minute = 0;
        int calls = 0;
        int late = 0;
        int lost = 0;
        int driven = 0;
        int moved = 0;

        void begin(int[] at, int engines) {
            size = Math.max(0, Math.min(engines, Math.min(at.length, MOST_ENGINES)));
            for (int e = 0; e < size; e++) {
                posts[e] = at[e];
                modes[e] = READY;
                readyAt[e] = 0;
            }
            beginnings = 0;
            minute = 0;
            calls = 0;
            late = 0;
            lost = 0;
            driven = 0;
            moved = 0;
        }

        void takeOver(Crew other) {
            System.arraycopy(other.posts, 0, posts, 0, MOST_ENGINES);
            System.arraycopy(other.modes, 0, modes, 0, MOST_ENGINES);
            System.arraycopy(other.readyAt, 0, readyAt, 0, MOST_ENGINES);
            System.arraycopy(other.begun, 0, begun, 0, MOST_LIMIT);
            size = other.size;
            beginnings = other.beginnings;
            minute = other.minute;
            calls = other.calls;
            late = other.late;
            lost = other.lost;
            driven = other.driven;
            moved = other.moved;
        }

        /** How many ENGINES become READY as a MINUTE passes. */
        int nextMinute() {
            minute++;
            int became = 0;
            for (int e = 0; e < size; e++) {
                if (modes[e] != READY && readyAt[e] <= minute) {
                    modes[e] = READY;
                    became++;
                }
            }
            return became;
        }

        /** ENGINES (bits) that are READY, MOVING or OUT. */
        int inMode(int mode) {
            int engines = 0;
            for (int e = 0; e < size; e++) {
                if (modes[e] == mode) {
                    engines |= 1 << e;
                }
            }
            return engines;
        }

        int postedAt(int s) {
            int engines = 0;
            for (int e = 0; e < size; e++) {
                if (posts[e] == s) {
                    engines |= 1 << e;
                }
            }
            return engines;
        }

        int waitOf(int e) {
            if (e < 0 || e >= size || modes[e] == READY) {
                return 0;
            }
            return readyAt[e] - minute;
        }

        void goOut(int e, int way, int service) {
            if (e >= 0 && e < size) {
                modes[e] = OUT;
                readyAt[e] = minute + 2 * way + service;
                driven += way;
            }
        }

        void move(int e, int station, int way) {
            if (e >= 0 && e < size) {
                posts[e] = station;
                modes[e] = way > 0 ? MOVING : READY;
                readyAt[e] = minute + way;
                moved++;
                remember();
            }
        }

        private void remember() {
            if (beginnings >= MOST_LIMIT) {
                System.arraycopy(begun, 1, begun, 0, MOST_LIMIT - 1);
                beginnings = MOST_LIMIT - 1;
            }
            begun[beginnings] = minute;
            beginnings++;
        }

        int movedLately() {
            int many = 0;
            for (int i = 0; i < beginnings; i++) {
                if (begun[i] > minute - LIMIT_MINUTES) {
                    many++;
                }
            }
            return many;
        }

        /** In how many MINUTES fewer than LIMIT count, where now they do not; NONE: never. */
        int waitForMove(int limit) {
            int i = beginnings - limit;
            if (limit <= 0 || i < 0 || i >= MOST_LIMIT) {
                return NONE;
            }
            return begun[i] + LIMIT_MINUTES - minute;
        }
    }

    /** All that keeps() keeps. */
    private static final class World {
        final Land land = new Land();
        final Crew crew = new Crew();
        int reach = 8;
        int service = 30;
        int limit = 6;
        int random = 1;

        void takeOver(World other) {
            land.takeOver(other.land);
            crew.takeOver(other.crew);
            reach = other.reach;
            service = other.service;
            limit = other.limit;
            random = other.random;
        }

        int draw(int n) {
            random = random * 1103515245 + 12345;
            return n > 0 ? (random >>> 16) % n : 0;
        }

        int mayMove() {
            return Math.max(0, limit - crew.movedLately());
        }

        /** FAR from the POST of a READY ENGINE; of others there is no way. */
        int readyWay(int e, int a) {
            if (e < 0 || e >= crew.size || crew.modes[e] != READY) {
                return NO_WAY;
            }
            return land.wayOf(land.placeOf(crew.posts[e]), a);
        }

        int whoGoes(int a) {
            int goes = NONE;
            int least = NO_WAY;
            for (int e = 0; e < crew.size; e++) {
                int way = readyWay(e, a);
                if (way < least) {
                    least = way;
                    goes = e;
                }
            }
            return goes;
        }

        int nearestWay(int a) {
            return readyWay(whoGoes(a), a);
        }

        /** A CALL: the ENGINE that goes; NONE: it is LOST. */
        int send(int a) {
            int goes = whoGoes(a);
            crew.calls++;
            if (goes == NONE) {
                crew.lost++;
                return NONE;
            }
            int way = readyWay(goes, a);
            if (way > reach) {
                crew.late++;
            }
            crew.goOut(goes, way, service);
            return goes;
        }

        void callSomewhere() {
            int all = land.weigh(ALL_NODES);
            if (all == 0) {
                return;
            }
            int lot = draw(all);
            for (int a = 0; a < NODES; a++) {
                if (lot < land.weights[a]) {
                    send(a);
                    return;
                }
                lot -= land.weights[a];
            }
        }
    }

    /** The two ENGINES that would go to two CALLS at once. */
    private static final class Couple {
        int toFirst = NONE;
        int toSecond = NONE;
        int longer = 0;
        int together = 0;

        /** false: there are no two with ways. */
        boolean find(World world, int a, int b) {
            toFirst = NONE;
            for (int e = 0; e < world.crew.size; e++) {
                int way = world.readyWay(e, a);
                if (way < NO_WAY) {
                    tryBeside(world, e, way, b);
                }
            }
            return toFirst != NONE;
        }

        private void tryBeside(World world, int e, int way, int b) {
            for (int f = 0; f < world.crew.size; f++) {
                int other = e == f ? NO_WAY : world.readyWay(f, b);
                if (other < NO_WAY && (toFirst == NONE || isLess(way, other))) {
                    toFirst = e;
                    toSecond = f;
                    longer = Math.max(way, other);
                    together = way + other;
                }
            }
        }

        private boolean isLess(int way, int other) {
            if (way + other != together) {
                return way + other < together;
            }
            return Math.max(way, other) < longer;
        }
    }

    /** NODES that STATIONS REACH, and what ENGINES put at STATIONS one by one REACH together. */
    private static final class Sight {
        final int[] nodesOf = new int[MOST_STATIONS];
        /** Room for ways with a ROAD left out. */
        final int[] ways = new int[NODES * NODES];
        /** NODES REACHED by one ENGINE or more, by two or more. */
        int once = 0;
        int twofold = 0;

        void look(Land land, int[] by, int reach) {
            for (int s = 0; s < MOST_STATIONS; s++) {
                nodesOf[s] = 0;
                int place = land.placeOf(s);
                if (place != NONE && by.length >= NODES * NODES) {
                    for (int a = 0; a < NODES; a++) {
                        if (by[NODES * place + a] <= reach) {
                            nodesOf[s] |= 1 << a;
                        }
                    }
                }
            }
        }

        private void putOne(int s) {
            if (s >= 0 && s < MOST_STATIONS) {
                twofold |= once & nodesOf[s];
                once |= nodesOf[s];
            }
        }

        void putEngines(Crew crew, int engines) {
            once = 0;
            twofold = 0;
            for (int e = 0; e < crew.size; e++) {
                if ((engines >> e & 1) == 1) {
                    putOne(crew.posts[e]);
                }
            }
        }

        /** One ENGINE at each of STATIONS (bits). */
        void putStations(int stations) {
            once = 0;
            twofold = 0;
            for (int s = 0; s < MOST_STATIONS; s++) {
                if ((stations >> s & 1) == 1) {
                    putOne(s);
                }
            }
        }

        int covered(Land land) {
            return land.weigh(once);
        }

        int doubled(Land land) {
            return land.weigh(twofold);
        }

        int coverOf(Land land, int stations) {
            putStations(stations);
            return covered(land);
        }

        /** The least bits of k STATIONS with the greatest COVER, or the greatest DOUBLE. */
        int bestStations(Land land, int k, boolean byDouble) {
            int most = NONE;
            int best = 0;
            for (int stations = 0; stations < 1 << land.stations; stations++) {
                if (Integer.bitCount(stations) == k) {
                    putStations(stations);
                    int worth = byDouble ? doubled(land) : covered(land);
                    if (worth > most) {
                        most = worth;
                        best = stations;
                    }
                }
            }
            return best;
        }

        /** The STATION that, with those taken, makes COVER greatest. */
        int bestBeside(Land land, int taken) {
            int most = NONE;
            int best = 0;
            for (int s = 0; s < land.stations; s++) {
                if ((taken >> s & 1) == 0 && coverOf(land, taken | 1 << s) > most) {
                    most = covered(land);
                    best = s;
                }
            }
            return best;
        }
    }

    /** What may be expected when ENGINES are often out. */
    private static final class Chances {
        /** Rows of STATIONS that never fall, of 6 ENGINES at 8 STATIONS: there are fewer. */
        private static final int MOST_ROWS = 2000;

        final int[] best = new int[MOST_ENGINES];
        private final int[] tried = new int[MOST_ENGINES];
        private final int[] byEngines = new int[MOST_ENGINES + 1];
        /** Four bits for each NODE, 1 if the STATION REACHES it: their sum counts ENGINES by NODES. */
        private final long[] hits = new long[MOST_STATIONS];

        void prepare(Sight sight, int p) {
            byEngines[0] = 0;
            for (int j = 0; j < MOST_ENGINES; j++) {
                byEngines[j + 1] = byEngines[j] + (THOUSAND - byEngines[j]) * (THOUSAND - p) / THOUSAND;
            }
            for (int s = 0; s < MOST_STATIONS; s++) {
                hits[s] = 0;
                for (int a = 0; a < NODES; a++) {
                    hits[s] |= (long) (sight.nodesOf[s] >> a & 1) << (4 * a);
                }
            }
        }

        int expectedNow(World world) {
            Crew crew = world.crew;
            long sum = 0;
            for (int e = 0; e < crew.size; e++) {
                if (crew.modes[e] == READY) {
                    sum += hitsOf(crew.posts[e]);
                }
            }
            return expected(world.land, sum);
        }

        private long hitsOf(int s) {
            return s >= 0 && s < MOST_STATIONS ? hits[s] : 0;
        }

        private int expected(Land land, long sum) {
            int all = 0;
            for (int a = 0; a < NODES; a++) {
                int engines = (int) (sum >> (4 * a)) & 15;
                if (engines <= MOST_ENGINES) {
                    all += land.weights[a] * byEngines[engines];
                }
            }
            return all;
        }

        /** The greatest EXPECTED; the first such row of STATIONS is in best. */
        int seekBest(Land land, int engines) {
            int size = Math.max(0, Math.min(engines, MOST_ENGINES));
            Arrays.fill(tried, 0);
            int most = NONE;
            boolean more = true;
            for (int row = 0; more && row < MOST_ROWS; row++) {
                long sum = 0;
                for (int i = 0; i < size; i++) {
                    sum += hitsOf(tried[i]);
                }
                int worth = expected(land, sum);
                if (worth > most) {
                    most = worth;
                    System.arraycopy(tried, 0, best, 0, MOST_ENGINES);
                }
                more = nextRow(size, land.stations);
            }
            return most;
        }

        /** The next row of STATIONS that never falls; false: there is none. */
        private boolean nextRow(int size, int stations) {
            int i = size - 1;
            while (i >= 0 && tried[i] >= stations - 1) {
                i--;
            }
            if (i < 0) {
                return false;
            }
            int raised = tried[i] + 1;
            for (int j = i; j < size; j++) {
                tried[j] = raised;
            }
            return true;
        }
    }

    /**
     * MOVES. One number says how good a way to move is: COVER first, then that few ENGINES move,
     * then that few MINUTES do; its greatest is kept by how many READY ENGINES are still to be
     * placed, how many of these may move, and which STATIONS (bits) those before them take.
     */
    private static final class Planner {
        private static final int MASKS = 1 << MOST_STATIONS;
        private static final int LEVELS = (MOST_ENGINES + 1) * (MOST_ENGINES + 2) / 2;
        /** 6 ENGINES that move cost less than one of COVER, 660 MINUTES each less than one ENGINE. */
        private static final int COVER_WORTH = 1 << 15;
        private static final int MOVE_COST = 1 << 12;

        final int[] engines = new int[MOST_ENGINES];
        final int[] posts = new int[MOST_ENGINES];
        final int[] goals = new int[MOST_ENGINES];
        int size = 0;
        int minutes = 0;
        int covered = 0;
        private final int[] ways = new int[MOST_ENGINES * MOST_STATIONS];
        private final int[] worths = new int[LEVELS * MASKS];
        private int stations = 0;

        void prepare(World world, Sight sight) {
            gather(world);
            for (int taken = 0; taken < 1 << stations; taken++) {
                worths[indexOf(0, 0, taken)] = sight.coverOf(world.land, taken) * COVER_WORTH;
            }
            for (int rest = 1; rest <= size; rest++) {
                for (int may = 0; may <= rest; may++) {
                    fill(rest, may);
                }
            }
        }

        private void gather(World world) {
            stations = Math.min(world.land.stations, MOST_STATIONS);
            size = 0;
            for (int e = 0; e < world.crew.size; e++) {
                if (world.crew.modes[e] == READY && size < MOST_ENGINES) {
                    engines[size] = e;
                    posts[size] = world.crew.posts[e];
                    for (int s = 0; s < stations; s++) {
                        ways[size * MOST_STATIONS + s] = world.land.wayOfStations(posts[size], s);
                    }
                    size++;
                }
            }
        }

        private void fill(int rest, int may) {
            for (int taken = 0; taken < 1 << stations; taken++) {
                // Those before them take no more STATIONS than they are.
                if (Integer.bitCount(taken) <= size - rest) {
                    int most = Integer.MIN_VALUE;
                    for (int s = 0; s < stations; s++) {
                        most = Math.max(most, worthOf(rest, may, taken, s));
                    }
                    worths[indexOf(rest, may, taken)] = most;
                }
            }
        }

        /** How good it can become if the first of the rest gets STATION s. */
        private int worthOf(int rest, int may, int taken, int s) {
            int i = size - rest;
            if (i < 0 || i >= MOST_ENGINES) {
                return Integer.MIN_VALUE;
            }
            int next = taken | 1 << s;
            if (posts[i] == s) {
                return worths[indexOf(rest - 1, Math.min(may, rest - 1), next)];
            }
            int way = wayTo(i, s);
            if (may <= 0 || way == NO_WAY) {
                return Integer.MIN_VALUE;
            }
            return worths[indexOf(rest - 1, may - 1, next)] - MOVE_COST - way;
        }

        private static int indexOf(int rest, int may, int taken) {
            int index = (rest * (rest + 1) / 2 + may) * MASKS + taken;
            return index >= 0 && index < LEVELS * MASKS ? index : 0;
        }

        /** MINUTES of the READY ENGINE at place i to STATION s. */
        int wayTo(int i, int s) {
            if (i < 0 || i >= size || s < 0 || s >= stations) {
                return NO_WAY;
            }
            return ways[i * MOST_STATIONS + s];
        }

        /** MOVES of n: the new POSTS are in goals. */
        void choose(int n) {
            int may = Math.max(0, Math.min(n, size));
            int taken = 0;
            minutes = 0;
            for (int i = 0; i < size; i++) {
                int rest = size - i;
                int goal = firstBest(rest, may, taken);
                if (goal != posts[i]) {
                    minutes += wayTo(i, goal);
                    may--;
                }
                goals[i] = goal;
                taken |= 1 << goal;
                may = Math.max(0, Math.min(may, rest - 1));
            }
            covered = worths[indexOf(0, 0, taken)] / COVER_WORTH;
        }

        private int firstBest(int rest, int may, int taken) {
            int most = worths[indexOf(rest, may, taken)];
            for (int s = 0; s < stations; s++) {
                if (worthOf(rest, may, taken, s) == most) {
                    return s;
                }
            }
            return 0;
        }
    }
}
