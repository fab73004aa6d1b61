/** An object with something of everything, and all that can be asked of an object, as a text. */
final class State {
    private static final String LAND = "r0-1=5;r1-2=4;r2-3=6;r3-4=7;r8-9=3;w0=10;w1=20;w2=30;w3=40;w8=7;w4=3;"
        + "s0,2,3,8;e0,1,1,2,3,0";

    private State() {
    }

    /** Engines 2 and 4 are READY, 0, 1 and 3 OUT, 5 MOVING; a road is shut; the ROW is 0 110, of cover(). */
    static EnginesOut rich() {
        EnginesOut x = Checks.on(LAND);
        x.reach(9);
        x.service(25);
        x.limit(7);
        x.seed(77);
        x.shuts(3, 4, true);
        x.call(3);
        x.call(11);
        x.pass(5);
        x.post(5, 1);
        x.keeps();
        x.pass(2);
        x.call(0);
        x.reach(3);
        x.call(1);
        x.reach(9);
        x.seed(-78);
        x.limit(6);
        x.cover();
        Checks.type(x, "w0=5");
        return x;
    }

    static String of(EnginesOut x) {
        return "ROW " + Checks.row(x) + " " + butRow(x);
    }

    /** All but the ROW; the object is spent behind it, as some can only be seen by changing it. */
    static String butRow(EnginesOut x) {
        StringBuilder is = new StringBuilder();
        is.append("counts ").append(counts(x)).append(' ').append(x.count(14));
        for (int a = 0; a < 12; a++) {
            is.append(" node ").append(a);
            for (int what = 0; what < 4; what++) {
                is.append(' ').append(x.node(a, what));
            }
        }
        for (int e = 0; e < 6; e++) {
            is.append(" engine ").append(e).append(' ').append(x.engine(e, 0)).append(' ').append(x.engine(e, 1)).append(' ')
                .append(x.engine(e, 2));
        }
        is.append(" stations");
        for (int s = 0; s < 8; s++) {
            is.append(' ').append(x.station(s));
        }
        is.append(" set ").append(x.reach(1)).append(' ').append(x.service(1)).append(' ').append(x.limit(20));
        is.append(begun(x)).append(roads(x));
        is.append(" back ").append(x.back()).append(' ').append(counts(x));
        is.append(" set ").append(x.reach(1)).append(' ').append(x.service(1)).append(' ').append(x.limit(20));
        is.append(begun(x)).append(" land ").append(x.land()).append(' ').append(x.node(0, 0));
        return is.toString();
    }

    private static String counts(EnginesOut x) {
        StringBuilder is = new StringBuilder();
        for (int what = 0; what < 13; what++) {
            is.append(what == 0 ? "" : " ").append(x.count(what));
        }
        return is.toString();
    }

    private static String begun(EnginesOut x) {
        StringBuilder is = new StringBuilder(" begun");
        for (int limit : new int[] {20, 6, 3, 2, 1}) {
            x.limit(limit);
            is.append(' ').append(x.left()).append(' ').append(x.row(0));
        }
        return is.toString();
    }

    /** Roads as shuts() knows them: -2 there is none, -3 it was shut; and the ways there were. */
    private static String roads(EnginesOut x) {
        StringBuilder is = new StringBuilder(" ways");
        for (int a = 0; a < 12; a++) {
            for (int b = a + 1; b < 12; b++) {
                is.append(' ').append(x.far(a, b));
            }
        }
        is.append(" roads");
        for (int a = 0; a < 12; a++) {
            for (int b = a + 1; b < 12; b++) {
                is.append(' ').append(x.shuts(a, b, true));
            }
        }
        return is.toString();
    }
}
