import java.util.function.IntUnaryOperator;

/** Collects answers that are not as due; a test ends with exit code 1 if there was one. */
final class Due {
    private static int wrong = 0;
    private static int asked = 0;
    private static String sentence = "";

    private Due() {
    }

    static void is(String call, long got, long want) {
        asked++;
        if (got != want) {
            wrong++;
            if (wrong <= 50) {
                System.out.println(sentence + call + " answered " + got + ", due is " + want);
            }
        }
    }

    /** What is tested from here on, for the answers that are not as due. */
    static void sentence(String told) {
        sentence = told + ": ";
    }

    /** Asks with numbers just outside a range, and far outside it: each must answer so. */
    static void outside(String call, int least, int most, int want, IntUnaryOperator ask) {
        for (int v : new int[] {least - 1, most + 1, Integer.MIN_VALUE, Integer.MAX_VALUE}) {
            is(call + " of " + v, ask.applyAsInt(v), want);
        }
    }

    /** Types a text of any length onto THE TAPE. */
    static void text(StiltWays x, String signs) {
        for (int from = 0; from < signs.length(); from += 8) {
            int to = Math.min(signs.length(), from + 8);
            long w = 0;
            for (int i = from; i < to; i++) {
                w = w << 8 | signs.charAt(i);
            }
            x.type(w, to - from);
        }
    }

    static int lagoon(StiltWays x, String signs) {
        text(x, signs);
        return x.lagoon();
    }

    static int paths(StiltWays x, String signs) {
        text(x, signs);
        return x.paths();
    }

    static void end() {
        System.out.println(asked + " answers, " + wrong + " not as due");
        if (wrong != 0) {
            System.exit(1);
        }
    }
}
