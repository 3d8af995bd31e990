/** The Terms of needs, meetings, floods and those carried, and promises 19 to 29: a test for each sentence. */
final class BoundsOfVillages {
    private static final int BAD = StiltWays.BAD, NOT = StiltWays.NOT, FULL = StiltWays.FULL, NONE = StiltWays.NONE;

    private BoundsOfVillages() {
    }

    static void run() {
        needsAsTheyCome();
        metAsHeIs();
        fewestLengths();
        firstRowOfLengths();
        meetingOfMost();
        meetingOfLikeOnes();
        pairsByLength();
        drowned();
        changedStilts();
        firstRowOfStilts();
        carriedByOthers();
        wrongInYears();
        need();
        needRefused();
        met();
        lengths();
        lengthsBad();
        lengthsNot();
        lengthsNone();
        meeting();
        meetingRefused();
        pairs();
        pairsBad();
        flood();
        floodBad();
        carried();
        carriedBad();
        wrong();
        wrongBad();
        clear();
        image();
        restore();
        restoreNone();
    }

    /** Plain people of these lengths at home at place 0. */
    private static void people(StiltWays x, int... lengths) {
        for (int length : lengths) {
            x.person(0, length, 0);
        }
    }

    private static StiltWays lagoon(String places) {
        StiltWays x = new StiltWays();
        Due.is("places of " + places, Math.min(1, Due.lagoon(x, places)), 1);
        return x;
    }

    private static void rowOfLengths(StiltWays x, int... row) {
        Due.is("how many lengths", x.lengths(-1), row.length);
        for (int i = 0; i < row.length; i++) {
            Due.is("length " + i, x.lengths(i), row[i]);
        }
        Due.is("no more", x.lengths(row.length), NONE);
    }

    private static void rowOfStilts(StiltWays x, int v, int... row) {
        for (int i = 0; i < row.length; i++) {
            Due.is("whose " + i + " has by " + v, x.flood(v, i), row[i]);
        }
        Due.is("nobody more", x.flood(v, row.length), BAD);
    }

    private static void needsAsTheyCome() {
        Told.of(0, "NEEDS 0 .. 9, as they come: one of PEOPLE must STAND at a PLACE at an HOUR.");
        StiltWays x = lagoon("5;6");
        people(x, 5, 6);
        for (int i = 0; i < 10; i++) {
            Due.is("it comes", x.need(i % 2, i / 5, i), i);
            Due.is("how many", x.count(3), i + 1);
        }
        Due.is("of 5 in 5, of 6 in 5 and 6", x.met(), 0x1F | 0x20 | 0x80 | 0x200);
        x.tide(0, 1);
        Due.is("at an hour", x.met(), 0x1E | 0x20 | 0x80 | 0x200);
        x.tide(9, 1);
        Due.is("at another", x.met(), 0x1E | 0x20 | 0x80);
    }

    private static void metAsHeIs() {
        Told.of(0, "MET is a NEED, if he does as he is.");
        StiltWays x = lagoon("10");
        for (int kind = 0; kind < 4; kind++) {
            x.person(kind, kind == 2 ? 12 : kind == 3 ? 9 : kind == 1 ? 20 : 10, 0);
            x.need(kind, 0, 0);
        }
        Due.is("but the child", x.met(), 7);
        x.years(1);
        Due.is("the child, too", x.met(), 15);
        x.set(1, 0);
        Due.is("each as he is", x.met(), 15);
        x.make(0, 0, 9);
        Due.is("out of reach", x.met(), 0);
    }

    private static void fewestLengths() {
        Told.of(0, "LENGTHS for a village: the fewest unlike LENGTHS (of 0 .. 60) so that each of PEOPLE that has "
            + "a NEED can be given one of these by which all his NEEDS are MET (as by KIND):");
        StiltWays x = lagoon("0;60;30;29");
        people(x, 1, 1, 1, 1);
        x.set(1, 0);
        x.need(0, 0, 0);
        rowOfLengths(x, 0);
        x.need(1, 1, 0);
        rowOfLengths(x, 0, 60);
        x.need(2, 1, 5);
        rowOfLengths(x, 0, 60);
        x.need(2, 2, 6);
        Due.is("not all his needs", x.lengths(-1), NONE);
        x.tide(6, 20);
        x.set(1, 10);
        rowOfLengths(x, 0, 60);
        x.tide(5, 1);
        Due.is("61 deep", x.lengths(-1), NONE);
        x.clear();
        x.set(1, 0);
        x.tide(6, 0);
        x.person(2, 7, 0);
        x.person(3, 7, 0);
        x.years(1);
        x.need(0, 2, 0);
        x.need(1, 2, 0);
        rowOfLengths(x, 29, 32);
        x.person(1, 7, 0);
        x.need(2, 3, 0);
        rowOfLengths(x, 29, 32);
        x.need(2, 2, 0);
        Due.is("not 29 and 30 by halves", x.lengths(-1), NONE);
        x.make(3, 0, 15);
        rowOfLengths(x, 29, 30, 32);
    }

    private static void firstRowOfLengths() {
        Told.of(0, "the fewest, of like ones the first as a row (the least first).");
        StiltWays x = lagoon("10;20;30;40");
        people(x, 0, 0, 0, 0);
        x.set(1, 15);
        for (int i = 0; i < 4; i++) {
            x.need(i, i, 0);
        }
        rowOfLengths(x, 20, 40);
        x.set(1, 10);
        rowOfLengths(x, 20, 40);
        x.set(1, 9);
        rowOfLengths(x, 10, 20, 30, 40);
        x.set(1, 20);
        rowOfLengths(x, 10, 40);
        x.set(1, 29);
        rowOfLengths(x, 10, 40);
        x.set(1, 30);
        rowOfLengths(x, 40);
        StiltWays hinged = lagoon("10;25");
        hinged.set(1, 0);
        hinged.person(1, 0, 0);
        hinged.person(0, 0, 0);
        hinged.need(0, 0, 0);
        hinged.need(1, 1, 0);
        rowOfLengths(hinged, 10, 25);
        hinged.make(1, 0, 20);
        rowOfLengths(hinged, 20);
    }

    private static void meetingOfMost() {
        Told.of(0, "MEETING: of all PLACES with a DEPTH below 0 (BARS), and HOURS, that one and that HOUR at "
            + "which most of PEOPLE STAND;");
        StiltWays x = lagoon("0;-1;-9");
        people(x, 0, 1, 30);
        x.set(1, 28);
        Due.is("0 is no bar", x.meeting(0), 1);
        Due.is("0 and 1", x.meeting(2), 2);
        x.tide(23, 2);
        Due.is("but 0", x.meeting(2), 2);
        x.tide(23, 3);
        x.set(1, 60);
        Due.is("all on the bar", x.meeting(2), 3);
        for (int hour = 0; hour < 23; hour++) {
            x.tide(hour, 20);
        }
        Due.is("30 alone, or 30, 1 and 0 at 23", x.meeting(1), 23);
        Due.is("on the higher", x.meeting(0), 2);
        Due.is("all", x.meeting(2), 3);
    }

    private static void meetingOfLikeOnes() {
        Told.of(0, "of like ones the first by HOUR, then PLACE.");
        StiltWays x = lagoon("-5;-9;-9;-5");
        people(x, 0, 0);
        for (int hour = 0; hour < 24; hour++) {
            x.tide(hour, 20);
        }
        x.tide(23, 0);
        Due.is("hour", x.meeting(1), 23);
        Due.is("place", x.meeting(0), 0);
        x.tide(22, 9);
        Due.is("the hour first", x.meeting(1), 22);
        Due.is("then the place", x.meeting(0), 1);
        x.tide(22, 10);
        Due.is("hour", x.meeting(1), 23);
        x.tide(0, 5);
        Due.is("the first hour", x.meeting(1), 0);
        Due.is("the first place", x.meeting(0), 0);
        x.set(0, 40);
        Due.is("nobody anywhere: hour", x.meeting(1), 0);
        Due.is("nobody anywhere: place", x.meeting(0), 0);
        Due.is("nobody anywhere: how many", x.meeting(2), 0);
    }

    private static void pairsByLength() {
        Told.of(0, "PAIRS: marriages of PEOPLE (each in one at most) whose LENGTHS as by KIND (HINGED: as told) "
            + "are no more than so much apart: the most.");
        StiltWays x = lagoon("5");
        people(x, 10, 20);
        Due.is("10 apart by 9", x.pairs(9), 0);
        Due.is("10 apart by 10", x.pairs(10), 1);
        people(x, 15);
        Due.is("each in one at most", x.pairs(60), 1);
        people(x, 25);
        Due.is("10, 15 and 20, 25", x.pairs(5), 2);
        Due.is("4", x.pairs(4), 0);
        x.clear();
        people(x, 15, 10, 19, 20);
        Due.is("not 15 and 19 alone", x.pairs(5), 2);
        Due.is("15 and 19, or 19 and 20", x.pairs(4), 1);
        x.clear();
        people(x, 0, 60);
        Due.is("60 apart", x.pairs(59), 0);
        Due.is("60 apart", x.pairs(60), 1);
        x.clear();
        x.person(1, 20, 0);
        x.person(2, 20, 0);
        Due.is("hinged 20 and worn 18", x.pairs(1), 0);
        Due.is("hinged 20 and worn 18", x.pairs(2), 1);
        x.clear();
        x.person(3, 20, 0);
        x.person(0, 40, 0);
        Due.is("a child of 20 and 40", x.pairs(19), 0);
        x.years(1);
        Due.is("a child of 21 and 40", x.pairs(19), 1);
        for (int i = 0; i < 6; i++) {
            x.person(0, 40, 0);
        }
        Due.is("of eight", x.pairs(0), 3);
        Due.is("of eight", x.pairs(19), 4);
    }

    private static void drowned() {
        Told.of(0, "A FLOOD of so much (in place of that told): DROWNED are PEOPLE that do not STAND at HOME at "
            + "some HOUR.");
        StiltWays x = lagoon("5;6;-20");
        x.person(0, 15, 0);
        x.person(0, 15, 1);
        x.person(0, 15, 2);
        Due.is("9", x.flood(9, -1), 0);
        Due.is("10", x.flood(10, -1), 2);
        Due.is("11", x.flood(11, -1), 3);
        Due.is("35", x.flood(35, -1), 3);
        Due.is("36", x.flood(36, -1), 7);
        x.set(0, 40);
        Due.is("in place of 40", x.flood(9, -1), 0);
        x.set(0, 0);
        for (int hour = 0; hour < 24; hour++) {
            x.tide(hour, 1);
            Due.is("at some hour", x.flood(9, -1), 2);
            x.tide(hour, 0);
        }
        x.set(1, 14);
        Due.is("water that is too low", x.flood(0, -1), 4);
        Due.is("high enough", x.flood(21, -1), 3);
        x.set(1, 5);
        x.tide(4, -1);
        Due.is("too low at some hour", x.flood(5, -1), 4 | 1);
    }

    private static void changedStilts() {
        Told.of(0, "STILTS may be changed among all (each has one's): by which the fewest are DROWNED: how many;");
        StiltWays x = lagoon("5;15;25");
        x.person(0, 25, 0);
        x.person(0, 5, 1);
        x.person(0, 15, 2);
        Due.is("as they are", x.flood(0, -1), 6);
        Due.is("changed", x.flood(0, -2), 0);
        Due.is("one", x.flood(1, -2), 1);
        Due.is("one", x.flood(10, -2), 1);
        Due.is("two", x.flood(11, -2), 2);
        Due.is("two", x.flood(20, -2), 2);
        Due.is("all", x.flood(21, -2), 3);
        x.clear();
        x.person(0, 40, 0);
        x.person(0, 2, 1);
        x.person(0, 2, 2);
        Due.is("each has one's", x.flood(0, -2), 2);
        x.clear();
        x.person(2, 5, 0);
        x.person(0, 7, 0);
        Due.is("worn, by his kind", x.flood(0, -2), 0);
        rowOfStilts(x, 0, 1, 0);
        Due.is("nobody", lagoon("5").flood(0, -2), 0);
    }

    private static void firstRowOfStilts() {
        Told.of(0, "of like ones the first row (whose LENGTH each has, by numbers).");
        StiltWays x = lagoon("5;15");
        people(x, 9, 9, 9, 9, 9, 9, 9, 9);
        rowOfStilts(x, 0, 0, 1, 2, 3, 4, 5, 6, 7);
        rowOfStilts(x, 40, 0, 1, 2, 3, 4, 5, 6, 7);
        x.clear();
        x.person(0, 25, 0);
        x.person(0, 5, 0);
        x.person(0, 5, 1);
        rowOfStilts(x, 0, 1, 2, 0);
        x.set(1, 19);
        rowOfStilts(x, 0, 1, 2, 0);
        x.set(1, 9);
        rowOfStilts(x, 0, 1, 2, 0);
        x.clear();
        people(x, 6, 5, 5, 4);
        rowOfStilts(x, 1, 0, 1, 2, 3);
        x.person(0, 16, 1);
        rowOfStilts(x, 1, 0, 1, 2, 3, 4);
        x.set(1, 30);
        rowOfStilts(x, 1, 0, 1, 2, 3, 4);
        x.make(1, 0, 5);
        Due.is("three", x.flood(1, -2), 3);
        rowOfStilts(x, 1, 0, 1, 2, 3, 4);
        x.clear();
        people(x, 15, 9, 9, 9, 9, 9, 9);
        x.person(0, 9, 1);
        rowOfStilts(x, 0, 0, 1, 2, 3, 4, 5, 6, 7);
        x.make(1, 0, 15);
        rowOfStilts(x, 0, 1, 2, 3, 4, 5, 6, 7, 0);
        Due.is("nobody", x.flood(0, -2), 0);
        x.clear();
        people(x, 4, 9, 4);
        x.person(2, 3, 0);
        Due.is("one stands", x.flood(0, -2), 3);
        rowOfStilts(x, 0, 0, 1, 2, 3);
    }

    private static void carriedByOthers() {
        Told.of(0, "CARRIED: some were seen at a PLACE at an HOUR, told as a set: those of it that do not STAND "
            + "there must have been CARRIED by others of it that do, each of them by another one: in how many ways "
            + "(who by whom; 1, if all STAND).");
        StiltWays x = lagoon("5");
        people(x, 5, 5, 5, 5, 4, 4, 4, 4);
        Due.is("all stand", x.carried(15, 0, 0), 1);
        Due.is("one stands", x.carried(1, 0, 0), 1);
        Due.is("one by one", x.carried(17, 0, 0), 1);
        Due.is("one by two", x.carried(19, 0, 0), 2);
        Due.is("one by four", x.carried(31, 0, 0), 4);
        Due.is("two by two", x.carried(51, 0, 0), 2);
        Due.is("two by four", x.carried(63, 0, 0), 12);
        Due.is("three by four", x.carried(127, 0, 0), 24);
        Due.is("four by four", x.carried(255, 0, 0), 24);
        Due.is("four by three", x.carried(254, 0, 0), 0);
        Due.is("two by one", x.carried(49, 0, 0), 0);
        Due.is("one by none", x.carried(128, 0, 0), 0);
        Due.is("four by none", x.carried(240, 0, 0), 0);
        x.tide(23, -1);
        Due.is("at an hour", x.carried(255, 0, 23), 1);
        x.set(1, 0);
        Due.is("out of reach, at an hour", x.carried(255, 0, 23), 24);
        x.tide(23, 1);
        Due.is("nobody stands", x.carried(255, 0, 23), 0);
    }

    private static void wrongInYears() {
        Told.of(0, "WRONG in n YEARS (1 .. 30): PEOPLE that STAND at HOME at an HOUR now, but not then, if only "
            + "YEARS go by.");
        StiltWays x = lagoon("10;10;-20;60");
        x.make(0, 2, -1);
        x.make(1, 2, 1);
        x.make(2, 2, 5);
        x.make(3, 2, -5);
        x.person(0, 20, 0);
        x.person(0, 21, 1);
        x.person(0, 0, 2);
        x.person(0, 60, 3);
        x.person(3, 1, 2);
        x.person(0, 9, 1);
        Due.is("in 9", x.wrong(9, 0), 0);
        Due.is("in 10", x.wrong(10, 0), 2);
        Due.is("in 11", x.wrong(11, 0), 3);
        Due.is("in 19", x.wrong(19, 0), 3);
        Due.is("in 20", x.wrong(20, 0), 3 | 16);
        Due.is("in 30", x.wrong(30, 0), 3 | 16);
        x.tide(7, 20);
        Due.is("none of those who do not stand now", x.wrong(30, 7), 16);
        x.tide(7, 1);
        Due.is("at an hour", x.wrong(10, 7), 1);
        Due.is("at an hour", x.wrong(9, 7), 0);
        x.years(1);
        Due.is("a year less", x.wrong(10, 0), 3);
        Due.is("a year less", x.wrong(9, 0), 2);
        Due.is("a year less", x.wrong(8, 0), 0);
        Due.is("no more years went by", x.count(4), 1);
        Due.is("no more silt came", x.water(0, 0), 11);
    }

    private static void need() {
        Told.of(19, "A NEED: its number.");
        StiltWays x = lagoon("5");
        people(x, 5);
        Due.is("the first", x.need(0, 0, 23), 0);
        Due.is("the same again", x.need(0, 0, 23), 1);
        x.clear();
        people(x, 5);
        Due.is("the first again", x.need(0, 0, 0), 0);
    }

    private static void needRefused() {
        Told.of(19, "BAD; FULL: 10.");
        StiltWays x = lagoon("5;5");
        Due.is("nobody", x.need(0, 0, 0), BAD);
        people(x, 5, 5);
        Due.outside("person", 0, 1, BAD, v -> x.need(v, 0, 0));
        Due.outside("place", 0, 1, BAD, v -> x.need(0, v, 0));
        Due.outside("hour", 0, 23, BAD, v -> x.need(0, 0, v));
        Due.is("none came", x.count(3), 0);
        for (int i = 0; i < 10; i++) {
            Due.is("the " + i + "th", x.need(1, 1, 23), i);
        }
        Due.is("an eleventh", x.need(1, 1, 23), FULL);
        Due.is("ten", x.count(3), 10);
        Due.outside("person, ahead of full", 0, 1, BAD, v -> x.need(v, 0, 0));
        Due.outside("place, ahead of full", 0, 1, BAD, v -> x.need(0, v, 0));
        Due.outside("hour, ahead of full", 0, 23, BAD, v -> x.need(0, 0, v));
    }

    private static void met() {
        Told.of(20, "NEEDS that are MET, as a set.");
        StiltWays x = lagoon("5");
        Due.is("no needs", x.met(), 0);
        people(x, 5);
        for (int i = 0; i < 10; i++) {
            x.need(0, 0, i);
        }
        Due.is("all", x.met(), 1023);
        for (int i = 0; i < 10; i++) {
            x.tide(i, 1);
            Due.is("but one", x.met(), 1023 & ~(1 << i));
            x.tide(i, 0);
        }
        x.set(0, 1);
        Due.is("none", x.met(), 0);
    }

    private static void lengths() {
        Told.of(21, "LENGTHS for the village: how many (-1), the i-th.");
        StiltWays x = lagoon("5;15;25;35;45;55;60;0");
        people(x, 0, 0, 0, 0, 0, 0, 0, 0);
        x.set(1, 0);
        for (int i = 0; i < 8; i++) {
            x.need(i, i, i);
        }
        rowOfLengths(x, 0, 5, 15, 25, 35, 45, 55, 60);
        x.need(7, 7, 8);
        x.need(7, 7, 9);
        rowOfLengths(x, 0, 5, 15, 25, 35, 45, 55, 60);
        x.tide(9, 1);
        Due.is("the tenth can't be met", x.lengths(-1), NONE);
    }

    private static void lengthsBad() {
        Told.of(21, "BAD: i below -1;");
        StiltWays x = lagoon("5");
        Due.is("ahead of not", x.lengths(-2), BAD);
        people(x, 5);
        x.need(0, 0, 0);
        Due.is("-2", x.lengths(-2), BAD);
        Due.is("far below", x.lengths(Integer.MIN_VALUE), BAD);
        Due.is("-1", x.lengths(-1), 1);
        x.make(0, 0, 60);
        x.set(0, 1);
        Due.is("ahead of none", x.lengths(-2), BAD);
    }

    private static void lengthsNot() {
        Told.of(21, "NOT: there are no NEEDS;");
        StiltWays x = lagoon("5");
        people(x, 5);
        Due.is("how many", x.lengths(-1), NOT);
        Due.is("the first", x.lengths(0), NOT);
        Due.is("far above", x.lengths(Integer.MAX_VALUE), NOT);
        x.need(0, 0, 0);
        Due.is("a need", x.lengths(-1), 1);
        x.clear();
        Due.is("no needs any more", x.lengths(-1), NOT);
    }

    private static void lengthsNone() {
        Told.of(21, "NONE: by none; there is no i-th.");
        StiltWays x = lagoon("60");
        people(x, 5, 5);
        x.need(0, 0, 0);
        Due.is("the first", x.lengths(0), 60);
        Due.is("no second", x.lengths(1), NONE);
        Due.is("far above", x.lengths(Integer.MAX_VALUE), NONE);
        x.need(1, 0, 1);
        x.tide(1, 1);
        Due.is("by none", x.lengths(-1), NONE);
        Due.is("by none", x.lengths(0), NONE);
    }

    private static void meeting() {
        Told.of(22, "MEETING: the PLACE (0), the HOUR (1), how many (2).");
        StiltWays x = BoundsOfPlaces.lagoon(12, 0);
        x.make(11, 0, -20);
        people(x, 20, 20, 20, 20, 20, 20, 20, 20);
        x.set(1, 19);
        x.tide(23, 20);
        Due.is("nobody: place", x.meeting(0), 11);
        Due.is("nobody: hour", x.meeting(1), 0);
        Due.is("nobody: how many", x.meeting(2), 0);
        x.set(0, 1);
        Due.is("place", x.meeting(0), 11);
        Due.is("hour", x.meeting(1), 23);
        Due.is("how many", x.meeting(2), 8);
    }

    private static void meetingRefused() {
        Told.of(22, "BAD; NONE: there is no BAR.");
        StiltWays x = new StiltWays();
        Due.outside("what", 0, 2, BAD, x::meeting);
        for (int what = 0; what < 3; what++) {
            Due.is("no place", x.meeting(what), NONE);
        }
        x.place(0);
        people(x, 5);
        for (int what = 0; what < 3; what++) {
            Due.is("no bar", x.meeting(what), NONE);
        }
        Due.outside("what, ahead of none", 0, 2, BAD, x::meeting);
        x.make(0, 0, -1);
        Due.is("a bar: place", x.meeting(0), 0);
        Due.is("a bar: how many", x.meeting(2), 1);
        x.clear();
        Due.is("nobody, but a bar", x.meeting(2), 0);
        x.make(0, 2, -1);
        x.years(1);
        Due.is("a bar no more", x.meeting(0), NONE);
    }

    private static void pairs() {
        Told.of(23, "PAIRS by LENGTHS no more than so much (0 .. 60) apart.");
        StiltWays x = lagoon("5");
        Due.is("nobody", x.pairs(0), 0);
        people(x, 0);
        Due.is("one", x.pairs(60), 0);
        people(x, 60);
        Due.is("two, 60 apart", x.pairs(60), 1);
        Due.is("two, 60 apart", x.pairs(59), 0);
        people(x, 60);
        Due.is("two alike", x.pairs(0), 1);
    }

    private static void pairsBad() {
        Told.of(23, "BAD.");
        StiltWays x = lagoon("5");
        Due.outside("apart", 0, 60, BAD, x::pairs);
        people(x, 5, 5);
        Due.outside("apart", 0, 60, BAD, x::pairs);
    }

    private static void flood() {
        Told.of(24, "A FLOOD of so much (0 .. 40) in place of that told: DROWNED as they are, a set (-1), the "
            + "fewest by changed STILTS (-2), whose LENGTH one has then (0 ..).");
        StiltWays x = lagoon("0;20");
        x.person(0, 60, 0);
        x.person(0, 19, 1);
        x.set(0, 40);
        x.set(1, 60);
        Due.is("0 as they are", x.flood(0, -1), 2);
        Due.is("0, the fewest", x.flood(0, -2), 0);
        rowOfStilts(x, 0, 1, 0);
        Due.is("40 as they are", x.flood(40, -1), 2);
        Due.is("40, the fewest", x.flood(40, -2), 1);
        rowOfStilts(x, 40, 0, 1);
        Due.is("that told stays", x.set(0, 0), 40);
        Due.is("stilts stay", x.of(0, 1), 60);
    }

    private static void floodBad() {
        Told.of(24, "BAD.");
        StiltWays x = lagoon("5");
        Due.outside("who of nobody", -2, -1, BAD, v -> x.flood(0, v));
        for (int i = 0; i < 8; i++) {
            int most = i;
            people(x, 5);
            Due.outside("who of " + (i + 1), -2, most, BAD, v -> x.flood(0, v));
            Due.is("the last", x.flood(0, i), i);
        }
        Due.outside("flood", 0, 40, BAD, v -> x.flood(v, 0));
        Due.outside("flood", 0, 40, BAD, v -> x.flood(v, -1));
        Due.outside("flood", 0, 40, BAD, v -> x.flood(v, -2));
    }

    private static void carried() {
        Told.of(25, "CARRIED, of a set, at a PLACE, an HOUR: in how many ways (0: it can't be).");
        StiltWays x = lagoon("5;9");
        people(x, 5, 5, 9);
        Due.is("all stand", x.carried(7, 0, 0), 1);
        Due.is("two by one", x.carried(7, 1, 0), 0);
        Due.is("one by one", x.carried(6, 1, 0), 1);
        x.tide(23, 1);
        Due.is("two by one", x.carried(7, 0, 23), 0);
        Due.is("one by one", x.carried(5, 0, 23), 1);
        Due.is("nobody stands", x.carried(7, 1, 23), 0);
    }

    private static void carriedBad() {
        Told.of(25, "BAD: also an empty set, one that is not there.");
        StiltWays x = lagoon("5;5");
        Due.is("nobody is there", x.carried(1, 0, 0), BAD);
        for (int i = 0; i < 8; i++) {
            int most = (1 << i) - 1;
            Due.outside("a set of " + i, 1, most, BAD, v -> x.carried(v, 0, 0));
            people(x, 5);
            Due.is("all of " + (i + 1), x.carried(2 * most + 1, 0, 0), 1);
        }
        Due.outside("a set of 8", 1, 255, BAD, v -> x.carried(v, 0, 0));
        Due.outside("place", 0, 1, BAD, v -> x.carried(1, v, 0));
        Due.outside("hour", 0, 23, BAD, v -> x.carried(1, 0, v));
        Due.is("the last hour and place", x.carried(1, 1, 23), 1);
    }

    private static void wrong() {
        Told.of(26, "WRONG in n YEARS, at an HOUR, as a set.");
        StiltWays x = BoundsOfPlaces.lagoon(8, 20);
        Due.is("nobody", x.wrong(1, 0), 0);
        for (int i = 0; i < 8; i++) {
            x.make(i, 2, i == 3 ? 0 : -1);
            x.person(0, i == 0 ? 20 : i == 7 ? 50 : 49, i);
        }
        x.set(1, 60);
        Due.is("in 1", x.wrong(1, 0), 1);
        Due.is("in 29", x.wrong(29, 0), 1);
        Due.is("in 30", x.wrong(30, 0), 127 - 8);
        x.tide(23, 1);
        Due.is("in 30, at 23", x.wrong(30, 23), 254 - 8);
        x.make(7, 0, 60);
        x.tide(23, -10);
        Due.is("60 at the most", x.wrong(30, 23), 1);
    }

    private static void wrongBad() {
        Told.of(26, "BAD.");
        StiltWays x = lagoon("5");
        Due.outside("n", 1, 30, BAD, v -> x.wrong(v, 0));
        Due.outside("hour", 0, 23, BAD, v -> x.wrong(1, v));
        Due.is("the last hour, the most years", x.wrong(30, 23), 0);
        for (int i = 0; i < 33; i++) {
            x.years(30);
        }
        x.person(3, 0, 0);
        x.years(9);
        Due.is("beyond 999 is not refused", x.wrong(30, 0), 0);
    }

    private static void clear() {
        Told.of(27, "PEOPLE, NEEDS go: how many PEOPLE.");
        StiltWays x = BoundsOfPlaces.lagoon(2, 5);
        Due.is("nobody", x.clear(), 0);
        for (int i = 0; i < 8; i++) {
            people(x, 5);
            x.need(i, 0, i);
        }
        x.path(0, 1, 9);
        x.years(3);
        x.set(0, 2);
        x.set(1, 3);
        x.tide(4, 5);
        Due.is("eight", x.clear(), 8);
        int[] due = {2, 1, 0, 0, 3};
        for (int what = 0; what < 5; what++) {
            Due.is("count " + what, x.count(what), due[what]);
        }
        Due.is("all else stays", x.water(0, 4), 12);
        Due.is("all else stays", x.set(1, 3), 3);
        Due.is("nobody any more", x.clear(), 0);
        people(x, 5, 6);
        Due.is("no needs", x.met(), 0);
        Due.is("two", x.clear(), 2);
    }

    private static void image() {
        Told.of(28, "All but SHEETS, THE TAPE is kept as an IMAGE: 1.");
        Due.is("of an empty one", new StiltWays().image(), 1);
        StiltWays x = lagoon("5");
        x.sheet(0, 0, 3);
        x.type('9', 1);
        Due.is("kept", x.image(), 1);
        x.type('9', 1);
        x.sheet(0, 1, 7);
        x.restore();
        Due.is("the tape is not", x.type('9', 1), 3);
        Due.is("the sheets are not", x.drop(0), 7);
        x.place(8);
        Due.is("in place of the first", x.image(), 1);
        x.place(9);
        x.restore();
        Due.is("the second", x.count(0), 2);
    }

    private static void restore() {
        Told.of(29, "All is as it was then: 1.");
        StiltWays full = new StiltWays();
        Refused.full(full);
        full.image();
        Due.lagoon(full, "1");
        Due.is("all", full.restore(), 1);
        int[] due = {12, 1, 8, 10, 999};
        for (int what = 0; what < 5; what++) {
            Due.is("count " + what, full.count(what), due[what]);
        }
        Due.is("full", full.place(0), FULL);
        Due.is("full", full.years(1), FULL);
        Due.is("full", full.person(0, 0, 0), FULL);
        Due.is("full", full.need(0, 0, 0), FULL);
        Due.is("full", full.make(0, 1, 1), FULL - 100000);
        Refused.changesNothing("changes and restore", x -> {
            Refused.rich(x);
            x.image();
        }, x -> {
            changeAll(x);
            return x.restore();
        }, 1);
    }

    private static void changeAll(StiltWays x) {
        x.clear();
        for (int place = 0; place < 5; place++) {
            x.make(place, 1, 0);
            x.make(place, 2, 4);
        }
        x.place(1);
        x.make(5, 1, 20);
        x.years(7);
        for (int hour = 0; hour < 24; hour++) {
            x.tide(hour, -9);
        }
        x.set(0, 1);
        x.set(1, 2);
        x.path(0, 1, 0);
        x.path(4, 5, 59);
        x.person(3, 59, 5);
        x.person(3, 58, 5);
        x.person(3, 57, 5);
        for (int need = 0; need < 6; need++) {
            x.need(1 + need % 2, 5, 9);
        }
    }

    private static void restoreNone() {
        Told.of(29, "NONE: there is none.");
        StiltWays x = lagoon("5");
        Due.is("none", x.restore(), NONE);
        Due.is("all stays", x.count(0), 1);
        x.image();
        Due.is("one", x.restore(), 1);
        Due.is("it stays", x.restore(), 1);
    }
}
