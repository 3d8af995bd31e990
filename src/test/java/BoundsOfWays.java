/** The Terms of ways and promises 13 to 18: a test for each sentence. */
final class BoundsOfWays {
    private static final int BAD = StiltWays.BAD, FULL = StiltWays.FULL, NONE = StiltWays.NONE;

    private BoundsOfWays() {
    }

    static void run() {
        fromHome();
        waits();
        hourOfMinute();
        remainderBy24();
        standsWhereHeIs();
        standsAtBothEnds();
        spliceAsHeComes();
        spliceAtHome();
        onceAtEach();
        longerFromThenOn();
        longerByKind();
        standsWithIt();
        soonIsFewest();
        soonIsNought();
        splicesTakenOrNot();
        soonInSixHundred();
        light();
        lightInSixHundred();
        water();
        waterBad();
        stands();
        standsBad();
        hours();
        hoursBad();
        years();
        yearsRefused();
        way();
        wayBad();
        wayNone();
        race();
        raceOfLikeOnes();
        raceInSixHundred();
        raceBad();
        raceOfNobody();
    }

    private static StiltWays lagoon(String places, String paths) {
        StiltWays x = new StiltWays();
        Due.is("places of " + places, Math.min(1, Due.lagoon(x, places)), 1);
        Due.is("paths of " + paths, Math.min(1, Due.paths(x, paths)), 1);
        return x;
    }

    private static void soon(StiltWays x, int place, int minute, int due) {
        Due.is("soon at " + place + " from " + minute, x.way(0, place, minute, 0), due);
    }

    private static void light(StiltWays x, int place, int minute, int due) {
        Due.is("light to " + place + " from " + minute, x.way(0, place, minute, 1), due);
    }

    private static void fromHome() {
        Told.of(0, "A WAY: one goes from HOME, from a MINUTE (0 .. 1439) on, along PATHS,");
        StiltWays x = lagoon("1;1;1;1", "ab3,bc5");
        x.person(0, 5, 2);
        x.person(0, 5, 0);
        Due.outside("minute", 0, 1439, BAD, v -> x.way(0, 0, v, 0));
        soon(x, 0, 0, 8);
        soon(x, 0, 1439, 8);
        soon(x, 1, 0, 5);
        soon(x, 2, 0, 0);
        soon(x, 3, 0, NONE);
        Due.is("another's home", x.way(1, 1, 0, 0), 3);
        x.path(1, 2, 0);
        soon(x, 0, 0, NONE);
        x.path(2, 0, 60);
        soon(x, 1, 0, 63);
        StiltWays all = BoundsOfPlaces.lagoon(12, 1);
        all.person(0, 5, 11);
        for (int a = 0; a < 12; a++) {
            for (int b = 0; b < a; b++) {
                all.path(a, b, a == 11 && b > 0 ? 60 : b + 2);
            }
        }
        for (int place = 0; place < 11; place++) {
            soon(all, place, 0, place == 0 ? 2 : 4);
        }
    }

    /** Nobody stands at place 1, but in one hour. */
    private static StiltWays onlyInHour(int hour) {
        StiltWays x = lagoon("-20;3", "ab1");
        x.person(0, 3, 0);
        for (int i = 0; i < 24; i++) {
            x.tide(i, i == hour ? 0 : 1);
        }
        return x;
    }

    private static void waits() {
        Told.of(0, "or waits, MINUTE by MINUTE;");
        StiltWays x = onlyInHour(9);
        for (int wait = 0; wait <= 120; wait++) {
            soon(x, 1, 540 - wait, wait + 1);
        }
        StiltWays y = lagoon("3;3;4", "ab7,bc1");
        y.person(0, 3, 0);
        y.tide(2, -1);
        soon(y, 2, 100, 21);
        soon(y, 2, 112, 9);
        soon(y, 2, 113, 8);
        soon(y, 2, 120, 8);
        soon(y, 2, 171, 8);
        soon(y, 2, 172, NONE);
        waitsAwayFromHome();
    }

    /** He can stay at home in the first hour alone, and at place 2 in the ninth. */
    private static void waitsAwayFromHome() {
        StiltWays x = lagoon("3;2;4", "ab7,bc1");
        x.person(0, 3, 0);
        for (int hour = 1; hour < 24; hour++) {
            x.tide(hour, hour == 9 ? -1 : 1);
        }
        soon(x, 1, 0, 7);
        soon(x, 2, 0, 541);
        soon(x, 2, 52, 489);
        soon(x, 2, 53, NONE);
    }

    private static void hourOfMinute() {
        Told.of(0, "HOUR is the MINUTE by 60");
        for (int hour = 0; hour < 24; hour++) {
            StiltWays x = onlyInHour(hour);
            soon(x, 1, 60 * hour, 1);
            soon(x, 1, 60 * hour + 58, 1);
            soon(x, 1, 60 * hour + 59, NONE);
            if (hour > 0) {
                soon(x, 1, 60 * hour - 1, 2);
            }
        }
    }

    private static void remainderBy24() {
        Told.of(0, "(as a remainder by 24).");
        StiltWays x = onlyInHour(0);
        soon(x, 1, 1439, 2);
        soon(x, 1, 1380, 61);
        soon(x, 1, 841, 600);
        soon(x, 1, 840, NONE);
        x = onlyInHour(9);
        soon(x, 1, 1439, 542);
        soon(x, 1, 1381, 600);
        soon(x, 1, 1380, NONE);
        x = onlyInHour(23);
        soon(x, 1, 1438, 1);
        soon(x, 1, 1439, NONE);
    }

    private static void standsWhereHeIs() {
        Told.of(0, "He must STAND at the PLACE where he is in each MINUTE,");
        StiltWays x = lagoon("10;10;10", "ab30,bc1");
        x.person(0, 10, 0);
        soon(x, 2, 0, 31);
        x.tide(0, 1);
        soon(x, 0, 0, NONE);
        soon(x, 2, 0, NONE);
        soon(x, 2, 59, NONE);
        soon(x, 2, 60, 31);
        x.tide(0, 0);
        x.make(2, 0, 12);
        x.tide(2, -2);
        soon(x, 2, 0, 121);
        x.tide(1, 1);
        soon(x, 2, 0, NONE);
        x.tide(1, -1);
        soon(x, 2, 0, 121);
        x.set(1, 0);
        soon(x, 2, 0, NONE);
    }

    private static void standsAtBothEnds() {
        Told.of(0, "and on a PATH at both its ends in each MINUTE, from when he leaves to when he comes.");
        StiltWays near = lagoon("10;0", "ab30");
        near.person(0, 10, 0);
        near.tide(1, 1);
        soon(near, 1, 29, 30);
        soon(near, 1, 30, NONE);
        StiltWays far = lagoon("0;10", "ab30");
        far.person(0, 10, 0);
        far.tide(1, 1);
        soon(far, 1, 29, 30);
        soon(far, 1, 30, 120);
        soon(far, 1, 119, 31);
        soon(far, 1, 120, 30);
        StiltWays whole = lagoon("0;10", "ab60");
        whole.person(0, 10, 0);
        soon(whole, 1, 0, 60);
        whole.tide(1, 1);
        soon(whole, 1, 0, 180);
        whole.path(0, 1, 59);
        soon(whole, 1, 0, 59);
    }

    private static void spliceAsHeComes() {
        Told.of(0, "At a POST he may take the SPLICE in the MINUTE in which he comes (");
        StiltWays x = lagoon("0;0p10;20", "ab10,bc10");
        x.person(0, 10, 0);
        soon(x, 2, 0, 20);
        light(x, 2, 0, 1);
        for (int hour = 0; hour < 24; hour++) {
            x.tide(hour, hour == 0 ? -1 : 0);
        }
        x.make(1, 0, -1);
        x.set(1, 19);
        light(x, 1, 49, 0);
        soon(x, 2, 49, NONE);
        x.make(1, 0, 1);
        soon(x, 2, 50, 20);
        soon(x, 2, 49, 21);
        light(x, 2, 49, 1);
        x.make(0, 0, 11);
        soon(x, 1, 49, 10);
        soon(x, 2, 49, NONE);
        light(x, 2, 49, NONE);
    }

    private static void spliceAtHome() {
        Told.of(0, "at HOME: the first),");
        StiltWays x = lagoon("0p10;20", "ab10");
        x.person(0, 10, 0);
        soon(x, 1, 0, 10);
        light(x, 1, 0, 1);
        x.set(1, 19);
        soon(x, 1, 0, NONE);
        x.tide(1, 1);
        x.make(1, 0, 19);
        soon(x, 1, 60, 10);
        soon(x, 1, 59, NONE);
    }

    private static void onceAtEach() {
        Told.of(0, "once at each:");
        StiltWays x = lagoon("0;0p10;25", "ab1,bc1");
        x.person(0, 10, 0);
        x.set(1, 60);
        soon(x, 2, 0, NONE);
        x.make(2, 0, 20);
        soon(x, 2, 0, 2);
        x.make(2, 0, 21);
        soon(x, 2, 0, NONE);
        x.make(0, 1, 1);
        soon(x, 2, 0, 2);
        light(x, 2, 0, 2);
        x.make(2, 0, 22);
        soon(x, 2, 0, NONE);
    }

    private static void longerFromThenOn() {
        Told.of(0, "his LENGTH as told is that much more from then on,");
        StiltWays x = lagoon("0;10p10;20", "ab5,bc5");
        x.person(0, 10, 0);
        soon(x, 2, 0, 10);
        x.make(1, 0, 11);
        soon(x, 1, 0, NONE);
        x.make(1, 0, 10);
        x.make(2, 0, 21);
        soon(x, 2, 0, NONE);
        x.make(1, 1, 11);
        soon(x, 2, 0, 10);
        Due.is("as told it stays", x.of(0, 1), 10);
        soon(x, 2, 0, 10);
        x = lagoon("0;0p20;0;20", "ab5,bc5,cd5");
        x.person(0, 1, 0);
        soon(x, 3, 0, NONE);
        x.set(1, 21);
        soon(x, 3, 0, 15);
    }

    private static void longerByKind() {
        Told.of(0, "as by KIND (");
        int[] deepest = {13, 13, 11, 14};
        for (int kind = 0; kind < 4; kind++) {
            StiltWays x = lagoon("0p3;9", "ab1");
            x.person(kind, 10, 0);
            x.years(1);
            x.make(1, 0, deepest[kind]);
            soon(x, 1, 0, 1);
            light(x, 1, 0, 1);
            x.make(1, 0, deepest[kind] + 1);
            soon(x, 1, 0, NONE);
        }
        StiltWays hinged = lagoon("5p3;6", "ab1");
        hinged.person(1, 10, 0);
        hinged.set(1, 0);
        soon(hinged, 1, 0, NONE);
        hinged.set(1, 1);
        soon(hinged, 1, 0, 1);
        light(hinged, 1, 0, 1);
        StiltWays worn = lagoon("0p3;2", "ab1");
        worn.person(2, 0, 0);
        soon(worn, 1, 0, NONE);
        worn.make(1, 0, 1);
        soon(worn, 1, 0, 1);
    }

    private static void standsWithIt() {
        Told.of(0, "he must STAND with it there, then, too).");
        StiltWays x = lagoon("9;9p20;30", "ab1,bc1");
        x.person(0, 10, 0);
        soon(x, 2, 0, NONE);
        soon(x, 1, 0, 1);
        x.set(1, 21);
        soon(x, 2, 0, 2);
        x.make(1, 0, 11);
        soon(x, 2, 0, NONE);
        x.make(1, 0, 9);
        x.tide(1, 1);
        x.make(2, 0, 29);
        soon(x, 2, 58, 2);
        x.set(1, 20);
        soon(x, 2, 58, 3);
        soon(x, 2, 59, 2);
    }

    private static void soonIsFewest() {
        Told.of(0, "SOON: the fewest MINUTES to a PLACE (");
        StiltWays x = lagoon("1;1;1;1", "ab20,bc20,ac41,cd1,bd22");
        x.person(0, 5, 0);
        soon(x, 2, 0, 40);
        soon(x, 3, 0, 41);
        x.path(0, 2, 39);
        soon(x, 2, 0, 39);
        soon(x, 3, 0, 40);
        x.path(1, 3, 19);
        soon(x, 3, 0, 39);
    }

    private static void soonIsNought() {
        Told.of(0, "0: he is there and STANDS),");
        StiltWays x = lagoon("5;5", "ab1");
        x.person(0, 5, 0);
        soon(x, 0, 0, 0);
        x.set(0, 1);
        soon(x, 0, 0, NONE);
        x.set(0, 0);
        x.tide(1, 1);
        soon(x, 0, 59, 0);
        soon(x, 0, 60, NONE);
        soon(x, 0, 119, NONE);
        soon(x, 0, 120, 0);
    }

    private static void splicesTakenOrNot() {
        Told.of(0, "with SPLICES taken or not,");
        StiltWays x = lagoon("0p10;20;0", "ab1,ac1");
        x.person(0, 10, 0);
        soon(x, 1, 0, 1);
        soon(x, 2, 0, 1);
        x.set(1, 19);
        soon(x, 1, 0, NONE);
        soon(x, 2, 0, 1);
        x = lagoon("0p10;0;0;20", "ab9,ac1,bd9,cd1");
        x.person(0, 10, 0);
        x.make(2, 0, 11);
        soon(x, 3, 0, 2);
        x.make(3, 0, 0);
        x.make(2, 0, -10);
        x.set(1, 10);
        x.tide(0, 10);
        soon(x, 3, 0, 2);
    }

    /** A chain of twelve places, ten of its paths an hour long. */
    private static StiltWays chain() {
        StiltWays x = BoundsOfPlaces.lagoon(12, 1);
        for (int i = 0; i < 10; i++) {
            x.path(i, i + 1, 60);
        }
        x.path(10, 11, 1);
        x.person(0, 1, 0);
        return x;
    }

    private static void soonInSixHundred() {
        Told.of(0, "in 600 at most.");
        StiltWays x = chain();
        soon(x, 10, 0, 600);
        soon(x, 11, 0, NONE);
        soon(x, 10, 1439, 600);
        soon(x, 11, 1439, NONE);
        x.path(0, 1, 59);
        soon(x, 11, 0, 600);
        StiltWays waiting = onlyInHour(20);
        soon(waiting, 1, 601, 600);
        soon(waiting, 1, 600, NONE);
    }

    private static void light() {
        Told.of(0, "LIGHT: the fewest SPLICES taken");
        StiltWays x = lagoon("0p4;0p4;0p4;9;9", "ab1,bc1,cd1,ae1");
        x.person(0, 10, 0);
        x.set(1, 60);
        for (int splices = 0; splices < 4; splices++) {
            x.make(3, 0, 10 + 4 * splices);
            light(x, 3, 0, splices);
            x.make(3, 0, 7 + 4 * splices);
            light(x, 3, 0, splices);
        }
        x.make(3, 0, 23);
        light(x, 3, 0, NONE);
        x.make(4, 0, 14);
        light(x, 4, 0, 1);
        x.make(0, 1, 1);
        soon(x, 4, 0, 3);
        light(x, 4, 0, 1);
        x.make(1, 1, 3);
        light(x, 4, 0, 1);
        x.make(2, 1, 3);
        light(x, 4, 0, 2);
        light(x, 0, 0, 0);
        StiltWays late = BoundsOfPlaces.lagoon(12, 0);
        late.person(0, 10, 0);
        late.set(1, 60);
        for (int i = 0; i < 11; i++) {
            late.path(i, i + 1, 1);
            late.make(i, 1, i > 7 ? 4 : 0);
        }
        for (int splices = 0; splices < 4; splices++) {
            late.make(11, 0, 10 + 4 * splices);
            light(late, 11, 0, splices);
            soon(late, 11, 0, 11);
        }
        late.make(11, 0, 23);
        light(late, 11, 0, NONE);
    }

    /** With the splice of home he comes by place 1 at once; without it by ten paths of an hour. */
    private static void lightInSixHundred() {
        Told.of(0, "by which he comes in 600 MINUTES.");
        StiltWays x = BoundsOfPlaces.lagoon(12, 5);
        x.make(0, 1, 10);
        x.make(1, 0, 20);
        x.path(0, 1, 1);
        x.path(1, 2, 1);
        x.path(0, 3, 60);
        for (int i = 3; i < 11; i++) {
            x.path(i, i + 1, 60);
        }
        x.path(11, 2, 60);
        x.person(0, 10, 0);
        soon(x, 2, 0, 2);
        light(x, 2, 0, 0);
        x.make(3, 0, 10);
        x.tide(0, 1);
        light(x, 2, 60, 0);
        light(x, 2, 59, 1);
        light(x, 1, 60, 1);
        x.make(0, 1, 0);
        light(x, 2, 60, 0);
        light(x, 2, 59, NONE);
    }

    private static void water() {
        Told.of(13, "WATER.");
        StiltWays x = lagoon("7;-3", "ab1");
        x.set(0, 5);
        x.tide(23, -20);
        Due.is("all", x.water(0, 0), 12);
        Due.is("all", x.water(1, 0), 2);
        Due.is("no less than 0", x.water(0, 23), 0);
        x.years(1);
        x.make(0, 2, 2);
        x.years(1);
        Due.is("by silt", x.water(0, 0), 10);
    }

    private static void waterBad() {
        Told.of(13, "BAD.");
        StiltWays x = lagoon("7;-3", "ab1");
        Due.outside("place", 0, 1, BAD, v -> x.water(v, 0));
        Due.outside("hour", 0, 23, BAD, v -> x.water(0, v));
        Due.is("the last hour", x.water(0, 23), 7);
    }

    private static void stands() {
        Told.of(14, "Whether one STANDS (1, 0).");
        StiltWays x = lagoon("7;8;9", "ab1");
        x.person(0, 8, 0);
        Due.is("less deep", x.stands(0, 0, 0), 1);
        Due.is("as deep", x.stands(0, 1, 0), 1);
        Due.is("deeper", x.stands(0, 2, 0), 0);
        x.tide(23, -1);
        Due.is("as deep then", x.stands(0, 2, 23), 1);
        x.set(1, 1);
        Due.is("in reach", x.stands(0, 0, 0), 1);
        Due.is("out of reach then", x.stands(0, 0, 23), 0);
    }

    private static void standsBad() {
        Told.of(14, "BAD.");
        StiltWays x = lagoon("7;8", "ab1");
        Due.is("nobody", x.stands(0, 0, 0), BAD);
        x.person(0, 8, 0);
        Due.outside("person", 0, 0, BAD, v -> x.stands(v, 0, 0));
        Due.outside("place", 0, 1, BAD, v -> x.stands(0, v, 0));
        Due.outside("hour", 0, 23, BAD, v -> x.stands(0, 0, v));
        Due.is("the last hour", x.stands(0, 1, 23), 1);
    }

    private static void hours() {
        Told.of(15, "HOURS at which one STANDS at a PLACE, as a set.");
        StiltWays x = lagoon("7;8", "ab1");
        x.person(0, 7, 1);
        Due.is("all", x.hours(0, 0), 0xFFFFFF);
        Due.is("none", x.hours(0, 1), 0);
        for (int hour = 0; hour < 24; hour++) {
            x.tide(hour, -1);
            Due.is("one", x.hours(0, 1), 1 << hour);
            x.tide(hour, 1);
            Due.is("all but one", x.hours(0, 0), 0xFFFFFF & ~(1 << hour));
            x.tide(hour, 0);
        }
    }

    private static void hoursBad() {
        Told.of(15, "BAD.");
        StiltWays x = lagoon("7;8", "ab1");
        Due.is("nobody", x.hours(0, 0), BAD);
        x.person(0, 7, 0);
        Due.outside("person", 0, 0, BAD, v -> x.hours(v, 0));
        Due.outside("place", 0, 1, BAD, v -> x.hours(0, v));
    }

    private static void years() {
        Told.of(16, "n YEARS (1 .. 30) go by: how many have.");
        StiltWays x = lagoon("60;-20;0", "ab1");
        x.make(0, 2, 1);
        x.make(1, 2, -1);
        Due.is("the least", x.years(1), 1);
        Due.is("a year's silt", x.make(0, 0, 59), 59);
        Due.is("the most", x.years(30), 31);
        Due.is("thirty more", x.make(0, 0, 0), 29);
        Due.is("up from the bar", x.make(1, 0, 0), 11);
        Due.is("no silt", x.make(2, 0, 0), 0);
        Due.is("of nothing, too", new StiltWays().years(30), 30);
    }

    private static void yearsRefused() {
        Told.of(16, "BAD; FULL: it would be more than 999.");
        StiltWays x = lagoon("60;1", "ab1");
        x.person(3, 0, 0);
        Due.outside("n", 1, 30, BAD, x::years);
        for (int i = 1; i <= 32; i++) {
            Due.is("thirty more", x.years(30), 30 * i);
        }
        Due.is("989", x.years(29), 989);
        x.make(1, 2, -1);
        Due.is("1019", x.years(30), FULL);
        Due.is("1000", x.years(11), FULL);
        Due.is("no year went by", x.count(4), 989);
        Due.is("no silt came", x.water(1, 0), 1);
        Due.is("no child grew", x.of(0, 2), 989);
        Due.is("999", x.years(10), 999);
        Due.is("ten years' silt", x.water(1, 0), 11);
        Due.is("1000", x.years(1), FULL);
        Due.outside("n, ahead of full", 1, 30, BAD, x::years);
        Due.is("no years", Due.lagoon(x, "1"), 1);
        Due.is("from 0 again", x.years(30), 30);
    }

    private static void way() {
        Told.of(17, "SOON (0), LIGHT (1) to a PLACE from a MINUTE.");
        StiltWays x = lagoon("5p2;5;12", "ab9,bc8");
        x.person(0, 10, 0);
        soon(x, 2, 3, 17);
        light(x, 2, 3, 1);
        soon(x, 1, 1439, 9);
        light(x, 1, 1439, 0);
    }

    private static void wayBad() {
        Told.of(17, "BAD;");
        StiltWays x = lagoon("5;5", "ab9");
        Due.is("nobody", x.way(0, 0, 0, 0), BAD);
        x.person(0, 10, 0);
        Due.outside("person", 0, 0, BAD, v -> x.way(v, 0, 0, 0));
        Due.outside("place", 0, 1, BAD, v -> x.way(0, v, 0, 0));
        Due.outside("minute", 0, 1439, BAD, v -> x.way(0, 0, v, 0));
        Due.outside("what", 0, 1, BAD, v -> x.way(0, 0, 0, v));
        x.set(0, 40);
        Due.is("ahead of none", x.way(0, 1, 1440, 0), BAD);
        Due.is("ahead of none", x.way(0, 1, 0, 2), BAD);
    }

    private static void wayNone() {
        Told.of(17, "NONE: he does not come there in 600.");
        StiltWays x = chain();
        for (int what = 0; what < 2; what++) {
            Due.is("in 600", x.way(0, 10, 5, what), what == 0 ? 600 : 0);
            Due.is("in 601", x.way(0, 11, 5, what), NONE);
        }
        x.path(3, 4, 0);
        for (int what = 0; what < 2; what++) {
            Due.is("cut off", x.way(0, 4, 5, what), NONE);
        }
        x.set(0, 1);
        for (int what = 0; what < 2; what++) {
            Due.is("he can't be at home", x.way(0, 0, 5, what), NONE);
        }
    }

    private static void race() {
        Told.of(18, "A race to a PLACE from a MINUTE: who of a set is there first (0;");
        StiltWays x = lagoon("1;1;1;1", "ad9,bd8,cd7");
        for (int i = 0; i < 8; i++) {
            x.person(0, 5, i % 3);
        }
        Due.is("all", x.race(255, 3, 0, 0), 2);
        Due.is("but 2 and 5", x.race(255 - 36, 3, 0, 0), 1);
        Due.is("0 and 7", x.race(129, 3, 1439, 0), 7);
        Due.is("7 alone", x.race(128, 3, 1439, 0), 7);
        Due.is("0 alone", x.race(1, 3, 1439, 0), 0);
        Due.is("he is there", x.race(255, 0, 1439, 0), 0);
    }

    private static void raceOfLikeOnes() {
        Told.of(18, "of like ones the least),");
        StiltWays x = lagoon("1;1;1", "ac9,bc9");
        for (int i = 0; i < 8; i++) {
            x.person(0, 5, i % 2);
        }
        for (int i = 0; i < 8; i++) {
            Due.is("from " + i + " on", x.race(255 & -(1 << i), 2, 0, 0), i);
        }
        x.path(0, 2, 10);
        Due.is("the least of the sooner", x.race(255, 2, 0, 0), 1);
        Due.is("the least of the sooner", x.race(253, 2, 0, 0), 3);
    }

    private static void raceInSixHundred() {
        Told.of(18, "how many come in 600 (1).");
        StiltWays x = chain();
        x.person(0, 1, 1);
        x.person(0, 1, 11);
        x.person(0, 0, 10);
        Due.is("in 600, 540, 1", x.race(15, 10, 0, 1), 3);
        Due.is("in 601, 541, 0", x.race(15, 11, 0, 1), 2);
        Due.is("in 600", x.race(1, 10, 0, 1), 1);
        Due.is("in 601", x.race(1, 11, 0, 1), 0);
        Due.is("no stilts", x.race(8, 10, 0, 1), 0);
        Due.is("who, in 600", x.race(1, 10, 0, 0), 0);
        Due.is("who, in 601 and 541", x.race(3, 11, 0, 0), 1);
    }

    private static void raceBad() {
        Told.of(18, "BAD: also an empty set, one that is not there;");
        StiltWays x = lagoon("1;1", "ab9");
        Due.is("nobody is there", x.race(1, 0, 0, 0), BAD);
        for (int i = 0; i < 8; i++) {
            int most = (1 << i) - 1;
            for (int what = 0; what < 2; what++) {
                int asked = what;
                Due.outside("a set of " + i, 1, most, BAD, v -> x.race(v, 0, 0, asked));
            }
            x.person(0, 1, 0);
            Due.is("all of " + (i + 1), x.race(2 * most + 1, 0, 0, 1), i + 1);
        }
        Due.outside("a set of 8", 1, 255, BAD, v -> x.race(v, 0, 0, 1));
        Due.outside("place", 0, 1, BAD, v -> x.race(1, v, 0, 0));
        Due.outside("minute", 0, 1439, BAD, v -> x.race(1, 0, v, 0));
        Due.outside("what", 0, 1, BAD, v -> x.race(1, 0, 0, v));
        x.set(0, 40);
        Due.is("ahead of none", x.race(0, 0, 0, 0), BAD);
        Due.is("ahead of none", x.race(1, 0, 1440, 0), BAD);
    }

    private static void raceOfNobody() {
        Told.of(18, "NONE: nobody (0).");
        StiltWays x = chain();
        Due.is("who, in 600", x.race(1, 10, 0, 0), 0);
        Due.is("who, in 601", x.race(1, 11, 0, 0), NONE);
        Due.is("how many, in 601", x.race(1, 11, 0, 1), 0);
        x.set(0, 1);
        Due.is("who", x.race(1, 0, 0, 0), NONE);
        Due.is("how many", x.race(1, 0, 0, 1), 0);
    }
}
