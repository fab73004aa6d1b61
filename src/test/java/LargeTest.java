import java.util.ArrayList;
import java.util.Collections;
import java.util.List;
import java.util.Random;

/** Lands as large as can be, 8 stations and 6 engines, where the model goes through 262144 ways to move. */
public final class LargeTest {
    public static void main(String[] args) {
        Random random = new Random(5);
        for (int i = 0; i < 15; i++) {
            compare(landText(random, i % 3 == 0 ? 3 : 100), 1 + random.nextInt(8), random.nextInt(1001));
        }
        Checks.close("LargeTest");
    }

    private static String landText(Random random, int weights) {
        StringBuilder text = new StringBuilder();
        boolean[] has = new boolean[144];
        for (int i = 0; i < 18; i++) {
            int a = random.nextInt(12);
            int b = random.nextInt(12);
            if (a != b && !has[12 * a + b]) {
                has[12 * a + b] = true;
                has[12 * b + a] = true;
                text.append("r" + a + "-" + b + "=" + (1 + random.nextInt(12)) + ";");
            }
        }
        List<Integer> places = new ArrayList<>();
        for (int a = 0; a < 12; a++) {
            text.append("w" + a + "=" + random.nextInt(weights) + ";");
            places.add(a);
        }
        Collections.shuffle(places, random);
        for (int s = 0; s < 8; s++) {
            text.append(s == 0 ? "s" : ",").append(places.get(s));
        }
        int crowded = 1 + random.nextInt(4);
        for (int e = 0; e < 6; e++) {
            text.append(e == 0 ? ";e" : ",").append(random.nextInt(crowded));
        }
        return text.toString();
    }

    private static void compare(String text, int reach, int p) {
        EnginesOut x = Checks.on(text);
        Model m = new Model();
        for (int v : Checks.signs(text)) {
            m.sign(v);
        }
        m.end(text.length());
        m.land();
        x.reach(reach);
        m.reach(reach);
        Checks.due("needs() of " + text, x.needs(), m.needs());
        for (int n = 1; n <= 6; n += 2) {
            Checks.due("moves(" + n + ") of " + text, x.moves(n), m.moves(n));
            row(x, m, "moves(" + n + ") of " + text);
        }
        Checks.due("bestFor(" + p + ") of " + text, x.bestFor(p), m.bestFor(p));
        row(x, m, "bestFor(" + p + ") of " + text);
        Checks.due("up(6) of " + text, x.up(6), m.up(6));
        row(x, m, "up(6) of " + text);
        Checks.due("MOVING behind up(6) of " + text, x.count(4), m.count(4));
    }

    private static void row(EnginesOut x, Model m, String behind) {
        Checks.due("numbers behind " + behind, x.count(13), m.row.size());
        for (int i = 0; i < m.row.size() && i < x.count(13); i++) {
            Checks.due("row(" + i + ") behind " + behind, x.row(i), m.row.get(i));
        }
    }
}
