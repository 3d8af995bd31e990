/** The Terms of texts and promises 9 to 11: a test for each sentence. */
final class BoundsOfTexts {
    private static final int BAD = StiltWays.BAD, FULL = StiltWays.FULL, NONE = StiltWays.NONE;

    private BoundsOfTexts() {
    }

    static void run() {
        howManyPlaces();
        depths();
        splices();
        inPlaceOfThoseTold();
        nonePutAside();
        whatStays();
        noFourthPost();
        howManyPaths();
        lettersUnlike();
        minutes();
        theyComeToo();
        toldTwice();
        faults();
        faultsAtTheEnd();
        blanks();
        noughtsAhead();
        numbersThatMayNotBe();
        type();
        typeBad();
        typeFull();
        lagoon();
        lagoonEmptiesTheTape();
        lagoonFault();
        paths();
        pathsEmptyTheTape();
        pathsFault();
    }

    private static void isLagoon(String text, int due) {
        Due.is("'" + text + "'", Due.lagoon(new StiltWays(), text), due);
    }

    /** In a lagoon of twelve places. */
    private static void isPaths(String text, int due) {
        Due.is("'" + text + "'", Due.paths(BoundsOfPlaces.lagoon(12, 0), text), due);
    }

    private static void howManyPlaces() {
        Told.of(0, "A LAGOON is a TEXT: 1 to 8 PLACES with ; between:");
        isLagoon("", -20);
        isLagoon("1", 1);
        isLagoon("1;2", 2);
        isLagoon("1;2;3;4;5;6;7;8", 8);
        isLagoon("1;2;3;4;5;6;7;8;", -35);
        isLagoon("1;2;3;4;5;6;7;8;9", -35);
        isLagoon("1;", -22);
        isLagoon(";1", -20);
        isLagoon("1;;2", -22);
        isLagoon("1,2", -21);
    }

    private static void depths() {
        Told.of(0, "perhaps -, a number (DEPTH),");
        String[] texts = {"0", "60", "-0", "-1", "-20"};
        int[] due = {0, 60, 0, -1, -20};
        for (int i = 0; i < texts.length; i++) {
            StiltWays x = new StiltWays();
            Due.is(texts[i], Due.lagoon(x, texts[i]), 1);
            Due.is(texts[i], x.make(0, 0, 0), due[i]);
        }
        isLagoon("61", -20);
        isLagoon("-21", -21);
        isLagoon("-60", -21);
        isLagoon("--1", -21);
        isLagoon("+1", -20);
        isLagoon("-", -21);
        isLagoon("p1", -20);
        isLagoon("-p1", -21);
    }

    private static void splices() {
        Told.of(0, "perhaps p and a number 1 .. 20 (SPLICES there):");
        String[] texts = {"5", "5p1", "-5p20"};
        int[] due = {0, 1, 20};
        for (int i = 0; i < texts.length; i++) {
            StiltWays x = new StiltWays();
            Due.is(texts[i], Due.lagoon(x, texts[i]), 1);
            Due.is(texts[i], x.make(0, 1, 0), due[i]);
        }
        StiltWays x = new StiltWays();
        Due.lagoon(x, "5p3;6p4;7p5");
        Due.lagoon(x, "5;6;7p1");
        for (int place = 0; place < 3; place++) {
            Due.is("none but those of the text", x.make(place, 1, 0), place == 2 ? 1 : 0);
        }
        isLagoon("5p0", -22);
        isLagoon("5p21", -22);
        isLagoon("5p", -22);
        isLagoon("5p-1", -22);
        isLagoon("5P1", -21);
        isLagoon("5p1p2", -23);
    }

    /** Twelve places with all that can be told of them. */
    private static StiltWays told() {
        StiltWays x = BoundsOfPlaces.lagoon(12, 5);
        for (int i = 0; i < 12; i++) {
            x.make(i, 2, 1);
            x.path(i, (i + 1) % 12, 7);
        }
        x.make(0, 1, 4);
        x.make(7, 1, 4);
        x.make(11, 1, 4);
        for (int i = 0; i < 10; i++) {
            x.person(3, 5, i);
            x.need(0, i, i);
        }
        x.years(1);
        return x;
    }

    private static void inPlaceOfThoseTold() {
        Told.of(0, "in place of those told (");
        StiltWays x = told();
        Due.is("one in place of twelve", Due.lagoon(x, "9"), 1);
        Due.is("one", x.count(0), 1);
        Due.is("its depth", x.water(0, 0), 9);
        Due.is("no splices there", x.make(0, 1, 0), 0);
        Due.is("no silt there", x.make(0, 2, 0), 0);
        Due.is("no other", x.water(1, 0), BAD);
        Due.is("its years bring no silt", x.years(5), 5);
        Due.is("its depth", x.water(0, 0), 9);
        for (int i = 1; i < 12; i++) {
            Due.is("a new one", x.place(2), i);
            Due.is("no splices there", x.make(i, 1, 0), 0);
            Due.is("no silt there", x.make(i, 2, 0), 0);
        }
    }

    private static void nonePutAside() {
        Told.of(0, "no PATHS, nobody, no NEEDS, no YEARS then;");
        StiltWays x = told();
        Due.lagoon(x, "1;2;3;4;5;6;7;8");
        int[] due = {8, 0, 0, 0, 0};
        for (int what = 0; what < 5; what++) {
            Due.is("count " + what, x.count(what), due[what]);
        }
        for (int i = 8; i < 12; i++) {
            x.place(1);
        }
        Due.is("no paths of new places", x.count(1), 0);
        for (int i = 0; i < 12; i++) {
            Due.is("no path", x.path(i, (i + 1) % 12, 0), 0);
        }
        Due.is("nobody", x.of(0, 0), BAD);
        Due.is("the first again", x.person(3, 4, 0), 0);
        Due.is("without years", x.of(0, 2), 4);
        Due.is("no needs", x.lengths(-1), StiltWays.NOT);
        Due.is("the first need again", x.need(0, 0, 0), 0);
    }

    private static void whatStays() {
        Told.of(0, "THE TIDE, FLOOD, REACH, the IMAGE stay;");
        StiltWays x = told();
        for (int hour = 0; hour < 24; hour++) {
            x.tide(hour, hour - 9);
        }
        x.set(0, 17);
        x.set(1, 18);
        x.image();
        Due.lagoon(x, "9;8");
        for (int hour = 0; hour < 24; hour++) {
            Due.is("tide", x.tide(hour, 0), hour - 9);
        }
        Due.is("flood", x.set(0, 0), 17);
        Due.is("reach", x.set(1, 0), 18);
        Due.is("the image", x.restore(), 1);
        int[] due = {12, 12, 8, 10, 1};
        for (int what = 0; what < 5; what++) {
            Due.is("count " + what, x.count(what), due[what]);
        }
        StiltWays none = new StiltWays();
        Due.lagoon(none, "9;8");
        Due.is("no image comes", none.restore(), NONE);
    }

    private static void noFourthPost() {
        Told.of(0, "a fourth p can't stand).");
        isLagoon("1p1;1p2;1p3", 3);
        isLagoon("1p1;1p2;1p3;1", 4);
        isLagoon("1p1;1p2;1p3;1p4", -33);
        isLagoon("1p1;1p2;1p3;1 p4", -34);
        isLagoon("1p1;1;1p2;1;1;1;1p3;1p4", -41);
        isLagoon("1p1;1p2;1p3;p", -32);
        StiltWays x = BoundsOfPlaces.lagoon(3, 5);
        for (int i = 0; i < 3; i++) {
            x.make(i, 1, 9);
        }
        for (int i = 0; i < 3; i++) {
            Due.is("those told ahead don't count", Due.lagoon(x, "1p1;1p2;1p3"), 3);
            Due.is("nor those of a fault", Due.lagoon(x, "1p1;1p2;1p3;"), -32);
        }
    }

    private static void howManyPaths() {
        Told.of(0, "PATHS are a TEXT: 1 to 8 with , between:");
        isPaths("", -20);
        isPaths("ab1", 1);
        isPaths("ab1,ac1", 2);
        isPaths("ab1,ac1,ad1,ae1,af1,ag1,ah1,ai1", 8);
        isPaths("ab1,ac1,ad1,ae1,af1,ag1,ah1,ai1,", -51);
        isPaths("ab1,ac1,ad1,ae1,af1,ag1,ah1,ai1,aj1", -51);
        isPaths("ab1,", -24);
        isPaths(",ab1", -20);
        isPaths("ab1,,ac1", -24);
        isPaths("ab1;ac1", -23);
    }

    private static void lettersUnlike() {
        Told.of(0, "two letters a .. l (unlike PLACES),");
        isPaths("al1", 1);
        isPaths("la1", 1);
        isPaths("kl1", 1);
        isPaths("am1", -21);
        isPaths("ma1", -20);
        isPaths("`a1", -20);
        isPaths("a`1", -21);
        isPaths("Ab1", -20);
        isPaths("aB1", -21);
        isPaths("aa1", -21);
        isPaths("l l1", -22);
        isPaths("a1", -21);
        isPaths("abc1", -22);
        StiltWays x = BoundsOfPlaces.lagoon(11, 0);
        Due.is("no twelfth place", Due.paths(x, "al1"), -21);
        Due.is("no twelfth place", Due.paths(x, "la1"), -20);
        Due.is("the eleventh", Due.paths(x, "ak1"), 1);
        Due.is("no place at all", Due.paths(new StiltWays(), "ab1"), -20);
        Due.is("one place", Due.paths(BoundsOfPlaces.lagoon(1, 0), "ab1"), -21);
    }

    private static void minutes() {
        Told.of(0, "a number (MINUTES):");
        isPaths("ab1", 1);
        isPaths("ab60", 1);
        isPaths("ab0", -22);
        isPaths("ab61", -22);
        isPaths("ab-1", -22);
        isPaths("ab", -22);
        StiltWays x = BoundsOfPlaces.lagoon(2, 0);
        Due.paths(x, "ba60");
        Due.is("it takes", x.path(0, 1, 0), 60);
        Due.paths(x, "ab1");
        Due.is("it takes", x.path(1, 0, 0), 1);
    }

    private static void theyComeToo() {
        Told.of(0, "they come, too (");
        StiltWays x = BoundsOfPlaces.lagoon(12, 0);
        x.path(0, 1, 5);
        Due.is("two more", Due.paths(x, "kl7,bc6"), 2);
        Due.is("three", x.count(1), 3);
        Due.is("the one that was there", x.path(0, 1, 5), 5);
        Due.is("the first", x.path(10, 11, 7), 7);
        Due.is("the second", x.path(1, 2, 6), 6);
    }

    private static void toldTwice() {
        Told.of(0, "of a pair that is there, or told twice, the MINUTES become so).");
        StiltWays x = BoundsOfPlaces.lagoon(3, 0);
        x.path(0, 1, 5);
        Due.is("one that is there", Due.paths(x, "ba60"), 1);
        Due.is("once", x.count(1), 1);
        Due.is("they become so", x.path(0, 1, 60), 60);
        Due.is("told twice", Due.paths(x, "bc9,cb8,bc7"), 3);
        Due.is("once", x.count(1), 2);
        Due.is("the last", x.path(1, 2, 7), 7);
    }

    private static void faults() {
        Told.of(0, "FAULTS: -20 less the place of the first byte (behind blanks) that can't stand there (");
        isLagoon("x", -20);
        isLagoon("   x", -23);
        isLagoon("5x", -21);
        isLagoon("5  x", -23);
        isLagoon("5p1;6x;61;70", -25);
        isLagoon("61p0", -20);
        isLagoon("5;61p21", -22);
        isLagoon("-21p", -21);
        isLagoon(" ".repeat(79) + "x", -99);
        isLagoon(" ".repeat(78) + "5x", -99);
        isPaths("x1", -20);
        isPaths("  x", -22);
        isPaths("a  1", -23);
        isPaths("ab1 ;ab61,aa", -24);
    }

    private static void faultsAtTheEnd() {
        Told.of(0, "the end: how many bytes there are);");
        isLagoon("", -20);
        isLagoon(" ", -21);
        isLagoon("-", -21);
        isLagoon("- ", -22);
        isLagoon("5;", -22);
        isLagoon("5;   ", -25);
        isLagoon("5p", -22);
        isLagoon(" ".repeat(80), -100);
        isPaths("", -20);
        isPaths("  ", -22);
        isPaths("a", -21);
        isPaths("a ", -22);
        isPaths("ab", -22);
        isPaths("ab  ", -24);
        isPaths("ab1,", -24);
        isPaths(" ".repeat(80), -100);
    }

    private static void blanks() {
        Told.of(0, "bytes 32 count for nothing, but end a number;");
        StiltWays x = new StiltWays();
        Due.is("everywhere", Due.lagoon(x, "  -  1  p  2  ;  3  "), 2);
        Due.is("a depth", x.make(0, 0, 5), -1);
        Due.is("splices", x.make(0, 1, 0), 2);
        Due.is("a depth", x.make(1, 0, 5), 3);
        Due.is("everywhere", Due.paths(x, "  a  b  7  ,  b  a  8  "), 2);
        Due.is("minutes", x.path(0, 1, 0), 8);
        isLagoon("1 2", -22);
        isLagoon("0 1", -22);
        isLagoon("1p1 0", -24);
        isPaths("ab1 2", -24);
        isPaths("ab0 1", -22);
    }

    private static void noughtsAhead() {
        Told.of(0, "a number may have 0s ahead;");
        StiltWays x = new StiltWays();
        Due.is("0s ahead", Due.lagoon(x, "00;0060p0020;-0020p01"), 3);
        int[] depths = {0, 60, -20};
        int[] splices = {0, 20, 1};
        for (int i = 0; i < 3; i++) {
            Due.is("a depth", x.make(i, 0, 0), depths[i]);
            Due.is("splices", x.make(i, 1, 0), splices[i]);
        }
        Due.is("many", Due.paths(x, "ab" + "0".repeat(76) + "60"), 1);
        Due.is("minutes", x.path(0, 1, 0), 60);
        isLagoon("0".repeat(78) + "60", 1);
        isLagoon("0".repeat(78) + "61", -20);
    }

    private static void numbersThatMayNotBe() {
        Told.of(0, "of a number that may not be its first byte (its first figure, a - being ahead of it, too).");
        isLagoon("61", -20);
        isLagoon("0061", -20);
        isLagoon("-21", -21);
        isLagoon("  -  0021", -25);
        isLagoon("5;100", -22);
        isLagoon("5;-100", -23);
        isLagoon("5p21", -22);
        isLagoon("5p  021", -24);
        isLagoon("5p00", -22);
        isLagoon("61x", -20);
        isLagoon("4294967297", -20);
        isLagoon("18446744073709551617", -20);
        isLagoon("9".repeat(80), -20);
        isPaths("ab61", -22);
        isPaths("ab 0061", -23);
        isPaths("ab00", -22);
        isPaths("ab1,ab4294967297", -26);
    }

    private static void type() {
        Told.of(9, "The n lowest bytes (1 .. 8) of w, of these the highest first, come behind THE TAPE: how many "
            + "it has.");
        StiltWays x = new StiltWays();
        Due.is("the lowest alone", x.type(0x0102030405060735L, 1), 1);
        Due.is("eight", x.type(0x3B363B373B383B39L, 8), 9);
        Due.is("5;6;7;8;9", x.lagoon(), 5);
        for (int i = 0; i < 5; i++) {
            Due.is("the highest first", x.water(i, 0), 5 + i);
        }
        Due.is("a w below 0", x.type(0xFFFFFFFFFFFF3132L, 2), 2);
        Due.is("12", x.lagoon(), 1);
        Due.is("12", x.water(0, 0), 12);
    }

    private static void typeBad() {
        Told.of(9, "BAD: n, a byte not 32 .. 126;");
        StiltWays x = new StiltWays();
        long fives = 0x3535353535353535L;
        Due.outside("n", 1, 8, BAD, v -> x.type(fives, v));
        for (int n = 1; n <= 8; n++) {
            for (int i = 0; i < n; i++) {
                for (long sign : new long[] {0, 31, 127, 128, 255}) {
                    long w = fives & ~(255L << 8 * i) | sign << 8 * i;
                    Due.is("a byte of " + sign + " at " + i + " of " + n, x.type(w, n), BAD);
                }
            }
        }
        Due.is("the tape is empty still", x.type(0x207EL, 2), 2);
        Due.is("32 and 126 are there", x.lagoon(), -21);
    }

    private static void typeFull() {
        Told.of(9, "FULL: 80.");
        StiltWays x = new StiltWays();
        for (int i = 1; i <= 9; i++) {
            x.type(0x2020202020202020L, 8);
        }
        Due.is("79", x.type(0x20202020202020L, 7), 79);
        for (int n = 2; n <= 8; n++) {
            Due.is("too many by " + (n - 1), x.type(0x3535353535353535L, n), FULL);
        }
        Due.is("bad ahead of full", x.type(0, 2), BAD);
        Due.is("bad ahead of full", x.type('5', 9), BAD);
        Due.is("80", x.type('5', 1), 80);
        Due.is("81", x.type('5', 1), FULL);
        Due.is("bad ahead of full", x.type(0, 1), BAD);
        Due.is("bad ahead of full", x.type('5', 0), BAD);
        Due.is("what was refused is not there", x.lagoon(), 1);
        Due.is("what was refused is not there", x.water(0, 0), 5);
        Due.is("empty again", x.type(0x3535353535353535L, 8), 8);
    }

    private static void lagoon() {
        Told.of(10, "is a LAGOON: how many PLACES.");
        StringBuilder text = new StringBuilder("9");
        for (int places = 1; places <= 8; places++) {
            isLagoon(text.toString(), places);
            text.append(";9");
        }
    }

    private static void lagoonEmptiesTheTape() {
        Told.of(10, "THE TAPE, which is empty then (by a FAULT, too),");
        StiltWays x = new StiltWays();
        Due.is("one", Due.lagoon(x, "1"), 1);
        Due.is("empty then", x.lagoon(), -20);
        Due.is("by a fault", Due.lagoon(x, "12x"), -22);
        Due.is("empty then", x.lagoon(), -20);
        Due.is("a full one", Due.lagoon(x, "1" + " ".repeat(79)), 1);
        Due.is("empty then", x.type('7', 1), 1);
    }

    private static void lagoonFault() {
        Told.of(10, "A FAULT (all else stays).");
        String[] faulty = {"", "1;2;3;", "1;2;61", "-", "1p1;1p1;1p1;1p1", "1;2;3;4;5;6;7;8;9"};
        for (String text : faulty) {
            Refused.changesNothing("lagoon of '" + text + "'", Refused::withoutTape,
                x -> Due.lagoon(x, text) <= -20 ? -20 : 0, -20);
        }
    }

    private static void paths() {
        Told.of(11, "is PATHS: how many.");
        StringBuilder text = new StringBuilder("ab9");
        for (int paths = 1; paths <= 8; paths++) {
            isPaths(text.toString(), paths);
            text.append(",ab9");
        }
    }

    private static void pathsEmptyTheTape() {
        Told.of(11, "THE TAPE, which is empty then (by a FAULT, too),");
        StiltWays x = BoundsOfPlaces.lagoon(2, 0);
        Due.is("one", Due.paths(x, "ab1"), 1);
        Due.is("empty then", x.paths(), -20);
        Due.is("by a fault", Due.paths(x, "ab1x"), -23);
        Due.is("empty then", x.paths(), -20);
        Due.is("empty then", x.type('7', 1), 1);
    }

    private static void pathsFault() {
        Told.of(11, "A FAULT (none comes).");
        String[] faulty = {"", "ac9,", "ac9,ab61", "ac9,ab9,aa1", "ac9;", "ab9,ab8,ab7,ab6,ab5,ab4,ab3,ab2,ab1"};
        for (String text : faulty) {
            Refused.changesNothing("paths of '" + text + "'", Refused::withoutTape,
                x -> Due.paths(x, text) <= -20 ? -20 : 0, -20);
        }
    }
}
