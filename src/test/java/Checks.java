import java.util.NoSuchElementException;

/** What the tests share: answers that are due, texts told to an object, the ROW. */
final class Checks {
    private static int wrong = 0;
    private static int asked = 0;

    private Checks() {
    }

    static void due(String what, long got, long want) {
        asked++;
        if (got != want) {
            wrong++;
            if (wrong <= 50) {
                System.out.println(what + ": answered " + got + ", due is " + want);
            }
        }
    }

    static void due(String what, boolean got, boolean want) {
        due(what, got ? 1 : 0, want ? 1 : 0);
    }

    /** Prints what was found, and ends the program with 1 if an answer was wrong. */
    static void close(String test) {
        System.out.println(test + ": " + asked + " answers, " + wrong + " wrong");
        if (wrong > 0 || asked == 0) {
            System.exit(1);
        }
    }

    static boolean isRight() {
        return wrong == 0;
    }

    static int wrong() {
        return wrong;
    }

    /** The ROW as a text, its numbers with blanks between. */
    static String row(EnginesOut x) {
        StringBuilder is = new StringBuilder();
        for (int i = 0; i < x.count(13); i++) {
            is.append(i == 0 ? "" : " ").append(x.row(i));
        }
        return is.toString();
    }

    static void rowIs(String what, EnginesOut x, long... want) {
        StringBuilder is = new StringBuilder();
        for (long n : want) {
            is.append(is.length() == 0 ? "" : " ").append(n);
        }
        asked++;
        if (!row(x).equals(is.toString())) {
            wrong++;
            System.out.println(what + ": the ROW is " + row(x) + ", due is " + is);
        }
        due(what + " row(-1) throws", hasNumber(x, -1), false);
        due(what + " row(size) throws", hasNumber(x, want.length), false);
    }

    static boolean hasNumber(EnginesOut x, int i) {
        try {
            x.row(i);
            return true;
        } catch (NoSuchElementException e) {
            return false;
        }
    }

    /** The numbers that sign() wants for a text. */
    static int[] signs(String text) {
        int[] numbers = new int[(text.length() + 3) / 4];
        for (int i = 0; i < 4 * numbers.length; i++) {
            int sign = i < text.length() ? text.charAt(i) : 0;
            numbers[i / 4] = numbers[i / 4] << 8 | sign;
        }
        return numbers;
    }

    static void type(EnginesOut x, String text) {
        x.end(0);
        for (int v : signs(text)) {
            x.sign(v);
        }
        x.end(text.length());
    }

    static int land(EnginesOut x, String text) {
        type(x, text);
        return x.land();
    }

    /** A new object with the land that a text tells. */
    static EnginesOut on(String text) {
        EnginesOut x = new EnginesOut();
        if (land(x, text) < 0) {
            wrong++;
            System.out.println("the land was refused: " + text);
        }
        return x;
    }
}
