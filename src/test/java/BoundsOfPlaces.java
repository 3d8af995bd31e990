/** The Terms ahead of all and of places, people and years, and promises 1 to 8, 12: a test for each sentence. */
final class BoundsOfPlaces {
    private static final int BAD = StiltWays.BAD, FULL = StiltWays.FULL, NONE = StiltWays.NONE, LESS = 100000;

    private BoundsOfPlaces() {
    }

    static void run() {
        answers();
        lessWhereBelow();
        setsAreBits();
        divisionsAreCut();
        placesAsTheyCome();
        depths();
        pathsJoinTwo();
        posts();
        tide();
        water();
        people();
        hinged();
        worn();
        child();
        stands();
        yearsGoBy();
        newObject();
        place();
        placeRefused();
        make();
        makeBad();
        makeFull();
        path();
        pathBad();
        tideBecomes();
        tideBad();
        set();
        setBad();
        person();
        personRefused();
        of();
        ofBad();
        count();
        countBad();
    }

    /** So many places, all of one depth. */
    static StiltWays lagoon(int places, int depth) {
        StiltWays x = new StiltWays();
        for (int i = 0; i < places; i++) {
            x.place(depth);
        }
        return x;
    }

    private static void answers() {
        Told.of(0, "BAD -1 (a number is not as told, there is no such thing), NOT -2 (as told), FULL -3, NONE -4 "
            + "(as told), CAST -12 (of SHEETS another LANE); what the machine finds: NULL -11, INDEX -13, SIZE -14");
        int[] got = {StiltWays.BAD, StiltWays.NOT, StiltWays.FULL, StiltWays.NONE, StiltWays.CAST, StiltWays.NULL,
            StiltWays.INDEX, StiltWays.SIZE};
        int[] due = {-1, -2, -3, -4, -12, -11, -13, -14};
        for (int i = 0; i < due.length; i++) {
            Due.is("constant " + i, got[i], due[i]);
        }
        StiltWays x = new StiltWays();
        Due.is("a number is not as told", x.place(61), -1);
        Due.is("no such thing", x.water(0, 0), -1);
        Due.is("as told", x.lengths(0), -2);
        Due.is("as told", x.restore(), -4);
        Due.is("no sheet", x.drop(0), -11);
        Due.is("no size", x.sheet(0, 0, -1), -14);
        x.sheet(0, 0, 1);
        Due.is("another lane", x.item(0, 1, 0, 0), -12);
        Due.is("no item", x.item(0, 0, 1, 0), -13);
        for (int i = 0; i < 12; i++) {
            x.place(0);
        }
        Due.is("full", x.place(0), -3);
    }

    private static void lessWhereBelow() {
        Told.of(0, "Where a told thing may be below 0, refused ones are 100000 less (-100001 and so on).");
        StiltWays x = lagoon(4, -1);
        Due.is("a depth", x.make(0, 0, 61), -100001);
        Due.is("a depth of -1", x.make(0, 0, 0), -1);
        Due.is("a silt", x.make(0, 2, 6), -100001);
        Due.is("a tide", x.tide(0, 21), -100001);
        x.make(0, 1, 1);
        x.make(1, 1, 1);
        x.make(2, 1, 1);
        Due.is("full", x.make(3, 1, 1), -100003);
        Due.is("no told thing below 0", x.set(0, -1), -1);
    }

    private static void setsAreBits() {
        Told.of(0, "Sets are bits.");
        StiltWays x = lagoon(1, 10);
        x.set(1, 60);
        for (int i = 0; i < 8; i++) {
            x.person(0, i == 0 || i == 7 ? 10 : 9, 0);
            x.need(i, 0, i);
        }
        x.tide(5, -1);
        x.tide(23, 1);
        Due.is("hours", x.hours(0, 0), (1 << 23) - 1);
        Due.is("met", x.met(), 1 | 1 << 5 | 1 << 7);
        x.tide(23, 0);
        Due.is("drowned", x.flood(0, -1), 126);
        Due.is("of a set of 0 and 7", x.race(129, 0, 0, 1), 2);
        Due.is("of a set of 1 and 7", x.race(130, 0, 0, 1), 1);
        Due.is("of a set of 1 and 7", x.race(130, 0, 0, 0), 7);
        Due.is("of a set of 1 and 7", x.carried(130, 0, 0), 1);
        x.make(0, 2, -1);
        Due.is("wrong", x.wrong(1, 0), 129);
    }

    private static void divisionsAreCut() {
        Told.of(0, "Divisions are cut.");
        StiltWays x = lagoon(1, 10);
        x.set(1, 0);
        x.person(1, 21, 0);
        x.person(1, 19, 0);
        Due.is("half of 21", x.stands(0, 0, 0), 1);
        Due.is("half of 19", x.stands(1, 0, 0), 0);
        x.make(0, 0, 0);
        x.person(1, 1, 0);
        Due.is("half of 1", x.stands(2, 0, 0), 1);
    }

    private static void placesAsTheyCome() {
        Told.of(0, "PLACES 0 .. 11, as they come,");
        StiltWays x = new StiltWays();
        for (int i = 0; i < 12; i++) {
            Due.is("ahead of its coming", x.water(i, 0), BAD);
            Due.is("it comes", x.place(i + 1), i);
            Due.is("it is there", x.water(i, 0), i + 1);
        }
        Due.outside("place", 0, 11, BAD, v -> x.water(v, 0));
    }

    private static void depths() {
        Told.of(0, "have a DEPTH (-20 .. 60; below 0: a bar above water).");
        StiltWays x = new StiltWays();
        Due.outside("place", -20, 60, BAD, x::place);
        Due.is("none has come", x.count(0), 0);
        Due.is("the least", x.place(-20), 0);
        Due.is("the most", x.place(60), 1);
        Due.outside("make", -20, 60, BAD - LESS, v -> x.make(0, 0, v));
        Due.is("the most", x.make(0, 0, 60), -20);
        Due.is("the least", x.make(1, 0, -20), 60);
        Due.is("was the most", x.make(0, 0, 0), 60);
        Due.is("a bar", x.meeting(0), 1);
        Due.is("was the least", x.make(1, 0, 0), -20);
        Due.is("0 is no bar", x.meeting(0), NONE);
        x.make(0, 0, -1);
        Due.is("-1 is a bar", x.meeting(0), 0);
        Due.is("above water", x.water(0, 0), 0);
    }

    private static void pathsJoinTwo() {
        Told.of(0, "PATHS join two PLACES (each pair once), take so many MINUTES (1 .. 60).");
        StiltWays x = lagoon(3, 0);
        x.person(0, 0, 0);
        Due.is("the least", x.path(0, 1, 1), 0);
        Due.is("it takes one", x.way(0, 1, 0, 0), 1);
        Due.is("the same, as told the other way", x.path(1, 0, 60), 1);
        Due.is("once", x.count(1), 1);
        Due.is("it takes sixty", x.way(0, 1, 0, 0), 60);
        Due.is("back, too", x.path(0, 1, 60), 60);
        Due.outside("minutes", 0, 60, BAD, v -> x.path(0, 2, v));
        Due.is("none came", x.count(1), 1);
    }

    private static void posts() {
        Told.of(0, "POSTS: at a PLACE SPLICES of a size (0 none, at first; 1 .. 20) may lie (at three PLACES at "
            + "the most).");
        StiltWays x = lagoon(12, 0);
        for (int i = 0; i < 12; i++) {
            Due.is("none at first", x.make(i, 1, 0), 0);
        }
        Due.outside("splices", 0, 20, BAD - LESS, v -> x.make(11, 1, v));
        Due.is("the least", x.make(11, 1, 1), 0);
        Due.is("the most", x.make(11, 1, 20), 1);
        Due.is("the most", x.make(0, 1, 20), 0);
        Due.is("at a third", x.make(5, 1, 3), 0);
        Due.is("at a fourth", x.make(4, 1, 3), FULL - LESS);
        Due.is("none at a fourth", x.make(4, 1, 0), 0);
        Due.is("away", x.make(0, 1, 0), 20);
        Due.is("at a third", x.make(4, 1, 3), 0);
        Due.is("no more at the first", x.make(0, 1, 20), FULL - LESS);
    }

    private static void tide() {
        Told.of(0, "THE TIDE has a height (-20 .. 20; 0 at first) at each HOUR 0 .. 23, the same day by day.");
        StiltWays x = lagoon(2, 20);
        for (int hour = 0; hour < 24; hour++) {
            Due.is("0 at first", x.water(0, hour), 20);
        }
        Due.outside("height", -20, 20, BAD - LESS, v -> x.tide(0, v));
        Due.outside("hour", 0, 23, BAD - LESS, v -> x.tide(v, 0));
        Due.is("the most", x.tide(0, 20), 0);
        Due.is("the least", x.tide(23, -20), 0);
        Due.is("the most", x.water(0, 0), 40);
        Due.is("the least", x.water(0, 23), 0);
        Due.is("no other hour", x.water(0, 1), 20);
        Due.is("no other hour", x.water(0, 22), 20);
        x.person(0, 20, 0);
        x.path(0, 1, 1);
        Due.is("till midnight", x.way(0, 1, 1438, 0), 1);
        Due.is("the next day's first hour", x.way(0, 1, 1439, 0), NONE);
    }

    private static void water() {
        Told.of(0, "WATER of a PLACE at an HOUR: DEPTH and TIDE and FLOOD (0 .. 40; 0 at first), no less than 0.");
        StiltWays x = lagoon(1, 5);
        Due.is("no flood at first", x.water(0, 7), 5);
        Due.outside("flood", 0, 40, BAD, v -> x.set(0, v));
        Due.is("the most", x.set(0, 40), 0);
        x.tide(7, 20);
        Due.is("all", x.water(0, 7), 65);
        Due.is("without tide", x.water(0, 8), 45);
        x.make(0, 0, 60);
        Due.is("the most of all", x.water(0, 7), 120);
        Due.is("the least", x.set(0, 0), 40);
        x.make(0, 0, 5);
        x.tide(7, -4);
        Due.is("1", x.water(0, 7), 1);
        x.tide(7, -5);
        Due.is("0", x.water(0, 7), 0);
        x.tide(7, -6);
        Due.is("no less", x.water(0, 7), 0);
        x.make(0, 0, -20);
        x.tide(7, -20);
        x.set(0, 39);
        Due.is("no less, but all together", x.water(0, 7), 0);
        x.set(0, 40);
        Due.is("all together", x.water(0, 7), 0);
        x.tide(7, -19);
        Due.is("all together", x.water(0, 7), 1);
    }

    private static void people() {
        Told.of(0, "PEOPLE 0 .. 7, as they come, have STILTS of a LENGTH (0 .. 60) and a HOME (a PLACE), and are "
            + "of a KIND: 0 PLAIN; below it");
        StiltWays x = lagoon(12, 0);
        Due.outside("kind", 0, 3, BAD, v -> x.person(v, 0, 0));
        Due.outside("length", 0, 60, BAD, v -> x.person(0, v, 0));
        Due.outside("home", 0, 11, BAD, v -> x.person(0, 0, v));
        for (int i = 0; i < 8; i++) {
            Due.is("ahead of his coming", x.of(i, 0), BAD);
            Due.is("he comes", x.person(i % 4, i % 2 == 0 ? 0 : 60, i == 7 ? 11 : 0), i);
            Due.is("his kind", x.of(i, 0), i % 4);
            Due.is("his length", x.of(i, 1), i % 2 == 0 ? 0 : 60);
            Due.is("his home", x.of(i, 3), i == 7 ? 11 : 0);
        }
        Due.outside("person", 0, 7, BAD, v -> x.of(v, 0));
    }

    private static void hinged() {
        Told.of(0, "1 HINGED (LENGTH or half of it, cut, as he likes),");
        StiltWays x = lagoon(2, 7);
        x.set(1, 0);
        x.person(1, 15, 0);
        Due.is("half, cut", x.stands(0, 0, 0), 1);
        for (int depth = 0; depth <= 17; depth++) {
            x.make(0, 0, depth);
            Due.is("in " + depth, x.stands(0, 0, 0), depth == 7 || depth == 15 ? 1 : 0);
        }
        x.make(0, 0, 15);
        x.path(0, 1, 1);
        Due.is("as he likes", x.way(0, 1, 0, 0), 1);
    }

    private static void worn() {
        Told.of(0, "2 WORN (LENGTH less 2, 0 at least),");
        StiltWays x = lagoon(1, 0);
        int[] lengths = {0, 1, 2, 3, 60};
        int[] due = {0, 0, 0, 1, 58};
        for (int i = 0; i < lengths.length; i++) {
            x.person(2, lengths[i], 0);
            Due.is("worn " + lengths[i], x.of(i, 2), due[i]);
            Due.is("he stands on land", x.stands(i, 0, 0), due[i] <= 20 ? 1 : 0);
        }
        x.make(0, 0, 1);
        Due.is("2 less 2 in 1", x.stands(2, 0, 0), 0);
        Due.is("3 less 2 in 1", x.stands(3, 0, 0), 1);
    }

    private static void child() {
        Told.of(0, "3 CHILD (LENGTH and 1 for each YEAR).");
        StiltWays x = lagoon(1, 5);
        x.person(3, 4, 0);
        Due.is("no year", x.of(0, 2), 4);
        Due.is("too short", x.stands(0, 0, 0), 0);
        x.years(1);
        Due.is("a year", x.of(0, 2), 5);
        Due.is("long enough", x.stands(0, 0, 0), 1);
        x.years(20);
        Due.is("in reach", x.stands(0, 0, 0), 1);
        x.years(1);
        Due.is("out of reach", x.stands(0, 0, 0), 0);
        for (int i = 22; i + 30 <= 999; i += 30) {
            x.years(30);
        }
        x.years(17);
        Due.is("all years", x.count(4), 999);
        Due.is("of all years", x.of(0, 2), 1003);
        x.person(3, 60, 0);
        Due.is("the most", x.of(1, 2), 1059);
    }

    private static void stands() {
        Told.of(0, "One STANDS at a PLACE at an HOUR, if WATER is no more than his LENGTH (as by KIND), and that "
            + "no more than REACH (0 .. 60; 20 at first) above it; of a HINGED one, if either of both lengths does.");
        StiltWays x = lagoon(1, 30);
        x.person(0, 30, 0);
        x.person(2, 32, 0);
        x.person(1, 60, 0);
        int[] tides = {-20, -19, 0, 1};
        for (int tide : tides) {
            x.tide(4, tide);
            Due.is("no more than his length, in " + (30 + tide), x.stands(0, 0, 4), tide <= 0 ? 1 : 0);
            Due.is("as by kind", x.stands(1, 0, 4), tide <= 0 ? 1 : 0);
        }
        x.make(0, 0, 29);
        x.tide(4, -20);
        Due.is("reach is 20 at first, 21 above", x.stands(0, 0, 4), 0);
        Due.is("of a hinged one, too", x.stands(2, 0, 4), 0);
        Due.outside("reach", 0, 60, BAD, v -> x.set(1, v));
        Due.is("the least", x.set(1, 0), 20);
        Due.is("below it", x.stands(0, 0, 0), 0);
        x.make(0, 0, 30);
        Due.is("as deep as he is long", x.stands(0, 0, 0), 1);
        Due.is("by half of it", x.stands(2, 0, 0), 1);
        Due.is("the most", x.set(1, 60), 0);
        x.person(0, 60, 0);
        x.make(0, 0, 0);
        Due.is("60 above", x.stands(3, 0, 0), 1);
        x.set(1, 59);
        Due.is("60 above, of 59", x.stands(3, 0, 0), 0);
        Due.is("30 above, by half", x.stands(2, 0, 0), 1);
    }

    private static void yearsGoBy() {
        Told.of(0, "YEARS go by one: by SILT (-5 .. 5 a PLACE; 0 at first) each DEPTH is less (no less than -20, "
            + "no more than 60).");
        StiltWays x = lagoon(4, 10);
        for (int i = 0; i < 4; i++) {
            Due.is("0 at first", x.make(i, 2, 0), 0);
        }
        Due.outside("silt", -5, 5, BAD - LESS, v -> x.make(0, 2, v));
        Due.is("the most", x.make(0, 2, 5), 0);
        Due.is("the least", x.make(1, 2, -5), 0);
        x.make(2, 2, 1);
        Due.is("six", x.years(6), 6);
        int[] six = {-20, 40, 4, 10};
        for (int i = 0; i < 4; i++) {
            Due.is("depth in six", x.make(i, 0, six[i]), six[i]);
        }
        Due.is("four more", x.years(4), 10);
        int[] ten = {-20, 60, 0, 10};
        for (int i = 0; i < 4; i++) {
            Due.is("depth in ten", x.make(i, 0, ten[i]), ten[i]);
        }
        x.make(0, 2, -1);
        x.make(1, 2, 1);
        x.years(1);
        Due.is("up from the least", x.make(0, 0, 0), -19);
        Due.is("down from the most", x.make(1, 0, 0), 59);
        x.make(0, 0, -17);
        x.make(0, 2, 5);
        x.make(1, 0, 57);
        x.make(1, 2, -5);
        x.years(30);
        Due.is("no less", x.make(0, 0, 0), -20);
        Due.is("no more", x.make(1, 0, 0), 60);
    }

    private static void newObject() {
        Told.of(1, "An empty lagoon.");
        for (int what = 0; what <= 4; what++) {
            Due.is("none of " + what, new StiltWays().count(what), 0);
        }
        StiltWays x = new StiltWays();
        Due.is("no place", x.make(0, 0, 0), BAD - LESS);
        Due.is("nobody", x.of(0, 0), BAD);
        Due.is("no needs", x.met(), 0);
        Due.is("no image", x.restore(), NONE);
        Due.is("an empty tape", x.lagoon(), -20);
        Due.is("no sheet", x.drop(0), StiltWays.NULL);
        Due.is("no tide, flood", x.set(0, 0) + x.tide(0, 0) + x.tide(23, 0), 0);
        Due.is("reach", x.set(1, 0), 20);
    }

    private static void place() {
        Told.of(2, "A PLACE: its number.");
        StiltWays x = new StiltWays();
        Due.is("the first", x.place(3), 0);
        Due.is("the second", x.place(3), 1);
        Due.is("behind those of a text", Due.lagoon(x, "1;2;3"), 3);
        Due.is("behind those of a text", x.place(3), 3);
        Due.is("its depth", x.water(3, 0), 3);
    }

    private static void placeRefused() {
        Told.of(2, "BAD; FULL: 12.");
        StiltWays x = lagoon(11, 4);
        Due.is("bad", x.place(61), BAD);
        Due.is("the twelfth", x.place(4), 11);
        Due.is("a thirteenth", x.place(4), FULL);
        Due.is("bad ahead of full", x.place(61), BAD);
        Due.is("bad ahead of full", x.place(-21), BAD);
        Due.is("there are twelve", x.count(0), 12);
        Due.lagoon(x, "1;1;1;1;1;1;1;1");
        for (int i = 8; i < 12; i++) {
            Due.is("behind a text of eight", x.place(i), i);
        }
        Due.is("full again", x.place(0), FULL);
    }

    private static void make() {
        Told.of(3, "Of a PLACE: 0 DEPTH, 1 SPLICES, 2 SILT becomes v: what it was.");
        StiltWays x = new StiltWays();
        x.place(5);
        x.place(6);
        int[] first = {5, 0, 0};
        int[] then = {9, 3, -2};
        for (int what = 0; what < 3; what++) {
            Due.is("what it was, " + what, x.make(0, what, then[what]), first[what]);
        }
        for (int what = 0; what < 3; what++) {
            Due.is("it became, " + what, x.make(0, what, 0), then[what]);
        }
        Due.is("of no other", x.make(1, 0, 0), 6);
        Due.is("of no other", x.make(1, 1, 0), 0);
        Due.is("of no other", x.make(1, 2, 0), 0);
    }

    private static void makeBad() {
        Told.of(3, "BAD less 100000;");
        StiltWays x = lagoon(2, 5);
        Due.outside("place", 0, 1, BAD - LESS, v -> x.make(v, 0, 0));
        Due.outside("what", 0, 2, BAD - LESS, v -> x.make(0, v, 0));
        Due.outside("depth", -20, 60, BAD - LESS, v -> x.make(0, 0, v));
        Due.outside("splices", 0, 20, BAD - LESS, v -> x.make(0, 1, v));
        Due.outside("silt", -5, 5, BAD - LESS, v -> x.make(0, 2, v));
        Due.is("all stays", x.make(0, 0, 5), 5);
        Due.is("all stays", x.make(0, 1, 0), 0);
        Due.is("all stays", x.make(0, 2, 0), 0);
        Due.is("no places", new StiltWays().make(0, 0, 0), BAD - LESS);
    }

    private static void makeFull() {
        Told.of(3, "FULL so: three others have SPLICES.");
        StiltWays x = lagoon(12, 5);
        x.make(0, 1, 1);
        x.make(5, 1, 1);
        Due.is("two others", x.make(11, 1, 1), 0);
        Due.is("two others, itself", x.make(11, 1, 2), 1);
        for (int place = 0; place < 12; place++) {
            boolean itself = place == 0 || place == 5 || place == 11;
            Due.is("of " + place, x.make(place, 1, 7), itself ? place == 11 ? 2 : 1 : FULL - LESS);
        }
        Due.is("none", x.make(3, 1, 0), 0);
        Due.is("bad ahead of full", x.make(3, 1, 21), BAD - LESS);
        Due.is("bad ahead of full", x.make(3, 1, -1), BAD - LESS);
        Due.is("bad ahead of full", x.make(12, 1, 1), BAD - LESS);
        Due.is("of splices alone", x.make(3, 0, 1), 5);
        Due.is("of splices alone", x.make(3, 2, 1), 0);
        Due.is("refused stays", x.make(4, 1, 0), 0);
        x.make(5, 1, 0);
        Due.is("two others", x.make(4, 1, 20), 0);
        Due.is("by a text, too", Due.lagoon(x, "1p1;1p1;1p1;1"), 4);
        Due.is("three others", x.make(3, 1, 1), FULL - LESS);
        Due.is("a new place", x.place(1), 4);
        Due.is("three others", x.make(4, 1, 1), FULL - LESS);
    }

    private static void path() {
        Told.of(4, "A PATH of so many MINUTES (0: none) joins two: what it took (0: there was none).");
        StiltWays x = lagoon(12, 5);
        Due.is("there was none", x.path(0, 11, 60), 0);
        Due.is("what it took", x.path(11, 0, 1), 60);
        Due.is("none now", x.path(0, 11, 0), 1);
        Due.is("how many", x.count(1), 0);
        Due.is("there was none", x.path(0, 11, 0), 0);
        Due.is("how many", x.count(1), 0);
        Due.is("there was none", x.path(11, 0, 2), 0);
        Due.is("how many", x.count(1), 1);
    }

    private static void pathBad() {
        Told.of(4, "BAD: also itself.");
        StiltWays x = lagoon(2, 5);
        Due.outside("one end", 0, 1, BAD, v -> x.path(v, 0, 1));
        Due.outside("one end", 0, 1, BAD, v -> x.path(v, 1, 1));
        Due.outside("the other", 0, 1, BAD, v -> x.path(0, v, 1));
        Due.outside("the other", 0, 1, BAD, v -> x.path(1, v, 1));
        Due.outside("minutes", 0, 60, BAD, v -> x.path(0, 1, v));
        for (int minutes = 0; minutes < 3; minutes++) {
            Due.is("itself", x.path(0, 0, minutes), BAD);
            Due.is("itself", x.path(1, 1, minutes), BAD);
        }
        Due.is("none came", x.count(1), 0);
        Due.is("no places", new StiltWays().path(0, 1, 1), BAD);
    }

    private static void tideBecomes() {
        Told.of(5, "THE TIDE at an HOUR: what it was.");
        StiltWays x = lagoon(1, 20);
        for (int hour = 0; hour < 24; hour++) {
            Due.is("what it was", x.tide(hour, hour - 12), 0);
        }
        for (int hour = 0; hour < 24; hour++) {
            Due.is("it became", x.water(0, hour), 8 + hour);
            Due.is("what it was", x.tide(hour, 0), hour - 12);
        }
    }

    private static void tideBad() {
        Told.of(5, "BAD less 100000.");
        StiltWays x = new StiltWays();
        x.tide(0, 3);
        x.tide(23, 4);
        Due.outside("hour", 0, 23, -100001, v -> x.tide(v, 0));
        Due.outside("height", -20, 20, -100001, v -> x.tide(0, v));
        Due.outside("height", -20, 20, -100001, v -> x.tide(23, v));
        Due.is("refused stays", x.tide(0, -20), 3);
        Due.is("refused stays", x.tide(23, 20), 4);
        Due.is("the least", x.tide(0, -1), -20);
        Due.is("-1 is no refusal", x.tide(0, 0), -1);
        Due.is("the most", x.tide(23, 0), 20);
    }

    private static void set() {
        Told.of(6, "FLOOD (0), REACH (1): what it was.");
        StiltWays x = new StiltWays();
        Due.is("flood", x.set(0, 40), 0);
        Due.is("reach", x.set(1, 60), 20);
        Due.is("flood", x.set(0, 0), 40);
        Due.is("reach", x.set(1, 0), 60);
        Due.is("flood", x.set(0, 1), 0);
        Due.is("reach", x.set(1, 41), 0);
        Due.is("reach", x.set(1, 41), 41);
    }

    private static void setBad() {
        Told.of(6, "BAD.");
        StiltWays x = new StiltWays();
        x.set(0, 7);
        Due.outside("what", 0, 1, BAD, v -> x.set(v, 0));
        Due.outside("flood", 0, 40, BAD, v -> x.set(0, v));
        Due.outside("reach", 0, 60, BAD, v -> x.set(1, v));
        Due.is("refused stays", x.set(0, 0), 7);
        Due.is("refused stays", x.set(1, 0), 20);
    }

    private static void person() {
        Told.of(7, "One of PEOPLE: the number.");
        StiltWays x = lagoon(1, 5);
        Due.is("the first", x.person(0, 1, 0), 0);
        Due.is("the second", x.person(3, 2, 0), 1);
        x.clear();
        Due.is("the first again", x.person(0, 1, 0), 0);
        Due.is("one", x.count(2), 1);
    }

    private static void personRefused() {
        Told.of(7, "BAD; FULL: 8.");
        StiltWays x = lagoon(2, 5);
        Due.outside("kind", 0, 3, BAD, v -> x.person(v, 1, 0));
        Due.outside("length", 0, 60, BAD, v -> x.person(0, v, 0));
        Due.outside("home", 0, 1, BAD, v -> x.person(0, 1, v));
        Due.is("nobody came", x.count(2), 0);
        for (int i = 0; i < 8; i++) {
            Due.is("the " + i + "th", x.person(0, 1, 1), i);
        }
        Due.is("a ninth", x.person(0, 1, 1), FULL);
        Due.is("bad ahead of full", x.person(4, 1, 0), BAD);
        Due.is("bad ahead of full", x.person(0, 61, 0), BAD);
        Due.is("bad ahead of full", x.person(0, 1, 2), BAD);
        Due.is("eight", x.count(2), 8);
        Due.is("no home", new StiltWays().person(0, 1, 0), BAD);
    }

    private static void of() {
        Told.of(8, "Of one of PEOPLE: 0 KIND, 1 LENGTH, 2 LENGTH as by KIND (HINGED: as told), 3 HOME.");
        StiltWays x = lagoon(3, 5);
        x.years(9);
        for (int kind = 0; kind < 4; kind++) {
            x.person(kind, 31, 2);
        }
        int[] byKind = {31, 31, 29, 40};
        for (int i = 0; i < 4; i++) {
            Due.is("kind", x.of(i, 0), i);
            Due.is("length", x.of(i, 1), 31);
            Due.is("length as by kind", x.of(i, 2), byKind[i]);
            Due.is("home", x.of(i, 3), 2);
        }
    }

    private static void ofBad() {
        Told.of(8, "BAD.");
        StiltWays x = lagoon(1, 5);
        Due.is("nobody", x.of(0, 0), BAD);
        x.person(0, 1, 0);
        Due.outside("person", 0, 0, BAD, v -> x.of(v, 1));
        Due.outside("what", 0, 3, BAD, v -> x.of(0, v));
        x.clear();
        Due.is("nobody any more", x.of(0, 0), BAD);
    }

    private static void count() {
        Told.of(12, "How many: 0 PLACES, 1 PATHS, 2 PEOPLE, 3 NEEDS, 4 YEARS gone by.");
        StiltWays x = lagoon(12, 5);
        int paths = 0;
        for (int a = 0; a < 12; a++) {
            for (int b = a + 1; b < 12; b++) {
                x.path(a, b, 1);
                paths++;
            }
        }
        for (int i = 0; i < 10; i++) {
            x.person(0, 1, 0);
            x.need(i % 8, 0, 0);
        }
        for (int i = 0; i < 33; i++) {
            x.years(30);
        }
        x.years(9);
        int[] most = {12, paths, 8, 10, 999};
        Due.is("all pairs", paths, 66);
        for (int what = 0; what < 5; what++) {
            Due.is("the most of " + what, x.count(what), most[what]);
        }
    }

    private static void countBad() {
        Told.of(12, "BAD.");
        StiltWays x = lagoon(1, 5);
        Due.outside("what", 0, 4, BAD, x::count);
    }
}
