/** Promises 43 to 46: what is kept, counted, and told in the ROW. */
public final class KeptTest {
    private static final String LAND = "r0-1=5;r1-2=4;r2-3=6;w0=10;w1=20;w2=30;w3=40;s0,2,3;e0,1";

    private static void due(String what, long got, long want) {
        Checks.due(what, got, want);
    }

    public static void main(String[] args) {
        keepsAndBack();
        keepsInPlace();
        movesAreKept();
        manyMovesAreKept();
        count();
        row();
        Checks.close("KeptTest");
    }

    private static void keepsAndBack() {
        EnginesOut x = Checks.on(LAND);
        due("44: nothing is kept", x.back(), -2);
        x.call(3);
        x.pass(3);
        x.call(0);
        x.pass(4);
        x.seed(99);
        x.shuts(1, 2, true);
        due("43: MINUTE", x.keeps(), 7);
        x.reach(20);
        x.service(21);
        x.limit(2);
        x.shuts(1, 2, false);
        x.storms(100, 1000);
        x.reached(0);
        x.sign(0x77303D31);
        due("44: MINUTE", x.back(), 7);
        Checks.rowIs("44: the ROW is not kept", x, 100);
        due("44: THE TEXT is not kept", x.count(14), 4);
        int[] counts = {3, 2, 0, 3, 0, 7, 2, 0, 0, 6, 0, 3, 99};
        for (int what = 0; what < counts.length; what++) {
            due("44: count(" + what + ")", x.count(what), counts[what]);
        }
        due("44: OUT", x.engine(0, 2), 26);
        due("44: OUT", x.engine(1, 2), 35);
        due("44: shut", x.far(0, 3), 999);
        due("44: shut", x.shuts(1, 2, true), -3);
        due("44: REACH", x.reach(8), 8);
        due("44: SERVICE", x.service(30), 30);
        due("44: LIMIT", x.limit(6), 6);
        x.pass(50);
        due("44: kept still", x.back(), 7);
        due("44: MINUTE", x.count(5), 7);
        due("43: asked again", x.keeps(), 7);
    }

    private static void keepsInPlace() {
        EnginesOut x = Checks.on(LAND);
        x.keeps();
        x.pass(5);
        due("43: in place of what was", x.keeps(), 5);
        x.pass(5);
        due("44: the later", x.back(), 5);
        Checks.rowIs("43: no ROW", x);
        EnginesOut y = new EnginesOut();
        due("43: a new one", y.keeps(), 0);
        y.reach(30);
        due("44: a new one", y.back(), 0);
        due("44: REACH", y.reach(1), 8);
    }

    private static void movesAreKept() {
        EnginesOut x = Checks.on(LAND);
        x.limit(2);
        x.post(0, 1);
        x.pass(20);
        x.keeps();
        x.post(1, 0);
        x.post(0, 2);
        due("44: LIMIT", x.left(), 0);
        x.pass(300);
        x.back();
        due("44: what began", x.left(), 1);
        due("44: moved", x.count(10), 1);
        due("44: POST", x.engine(0, 0), 1);
        due("44: POST", x.engine(1, 0), 1);
        x.post(1, 0);
        x.left();
        Checks.rowIs("44: as it was", x, 40);
    }

    /** So many moves behind keeps() that those before it are of no account any more, till they are again. */
    private static void manyMovesAreKept() {
        EnginesOut x = Checks.on("r0-1=1;s0,1;e0");
        x.limit(20);
        for (int i = 0; i < 20; i++) {
            x.post(0, 1 - i % 2);
            x.pass(3);
        }
        x.keeps();
        for (int i = 0; i < 15; i++) {
            due("44: moves again", x.post(0, 1 - i % 2), 1);
            x.pass(5);
        }
        due("44: MINUTE", x.back(), 60);
        due("44: one", x.left(), 1);
        x.limit(19);
        due("44: none", x.left(), 0);
        Checks.rowIs("44: the second was at 3", x, 3);
        x.limit(1);
        x.left();
        Checks.rowIs("44: the last was at 57", x, 57);
    }

    private static void count() {
        EnginesOut x = Checks.on(LAND + ",2,1");
        x.call(3);
        x.call(7);
        x.reach(1);
        x.call(1);
        x.post(0, 1);
        x.pass(2);
        x.seed(-9);
        x.cover();
        Checks.type(x, "w0=12");
        int[] counts = {3, 4, 8, 6, 1, 2, 3, 1, 1, 4, 1, 3, -9, 2, 5};
        for (int what = 0; what < counts.length; what++) {
            due("45: count(" + what + ")", x.count(what), counts[what]);
        }
        int[] wrong = {-1, 15, Integer.MIN_VALUE, Integer.MAX_VALUE};
        for (int what : wrong) {
            due("45: count(" + what + ")", x.count(what), -1);
        }
    }

    private static void row() {
        EnginesOut x = Checks.on(LAND);
        Checks.rowIs("46: at first", x);
        due("46: none", Checks.hasNumber(x, 0) ? 1 : 0, 0);
        x.cover();
        due("46: row(0)", x.row(0), 20);
        due("46: row(1)", x.row(1), 100);
        int[] wrong = {-1, 2, 3, 12, 13, 14, Integer.MIN_VALUE, Integer.MAX_VALUE};
        for (int i : wrong) {
            due("46: row(" + i + ")", Checks.hasNumber(x, i) ? 1 : 0, 0);
        }
        x.dearest();
        Checks.rowIs("46: a shorter one", x, 70);
        x.nested();
        Checks.rowIs("46: a longer one", x, 0, 2, 3, 7);
        x.best(9);
        x.far(0, 1);
        x.pass(1);
        x.keeps();
        x.share();
        x.needs();
        x.post(0, 1);
        Checks.rowIs("46: it stays", x, 0, 2, 3, 7);
    }
}
