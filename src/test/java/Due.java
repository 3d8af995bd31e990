/** Collects answers that are not as due; a test ends with exit code 1 if there was one. */
final class Due {
    private static int wrong = 0;
    private static int asked = 0;

    private Due() {
    }

    static void is(String call, long got, long want) {
        asked++;
        if (got != want) {
            wrong++;
            if (wrong <= 50) {
                System.out.println(call + " answered " + got + ", due is " + want);
            }
        }
    }

    /** Types a text of any length onto THE TAPE. */
    static void text(StiltWays x, String signs) {
        for (int from = 0; from < signs.length(); from += 8) {
            int to = Math.min(signs.length(), from + 8);
            long w = 0;
            for (int i = from; i < to; i++) {
                w = w << 8 | signs.charAt(i);
            }
            x.type(w, to - from);
        }
    }

    static int lagoon(StiltWays x, String signs) {
        text(x, signs);
        return x.lagoon();
    }

    static int paths(StiltWays x, String signs) {
        text(x, signs);
        return x.paths();
    }

    static void end() {
        System.out.println(asked + " answers, " + wrong + " not as due");
        if (wrong != 0) {
            System.exit(1);
        }
    }
}
