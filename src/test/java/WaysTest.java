/** Promises 13 to 18: water, who stands where, years, ways, races. */
final class WaysTest {
    public static void main(String[] args) {
        water();
        standsEdges();
        standsKinds();
        hours();
        years();
        yearsBounds();
        wayBad();
        wayPlain();
        wayWaits();
        wayBothEnds();
        wayInSixHundred();
        wayOverMidnight();
        waySplices();
        waySplicesByKind();
        waySpliceMustStand();
        waySpliceWhenHeComes();
        wayLight();
        race();
        raceBad();
        Due.end();
    }

    private static StiltWays lagoon(String places, String paths) {
        StiltWays x = new StiltWays();
        Due.is("places " + places, Due.lagoon(x, places) > 0 ? 1 : 0, 1);
        Due.is("paths " + paths, Due.paths(x, paths) > 0 ? 1 : 0, 1);
        return x;
    }

    private static void water() {
        StiltWays x = new StiltWays();
        x.place(5);
        x.place(-20);
        x.tide(0, -6);
        x.tide(1, -5);
        x.tide(2, 20);
        Due.is("13 no less than 0", x.water(0, 0), 0);
        Due.is("13 0", x.water(0, 1), 0);
        Due.is("13 25", x.water(0, 2), 25);
        Due.is("13 a bar", x.water(1, 2), 0);
        Due.is("13 without tide", x.water(0, 23), 5);
        x.set(0, 7);
        Due.is("13 all together", x.water(0, 0), 6);
        Due.is("13 all together", x.water(1, 2), 7);
        Due.is("13 a bar", x.water(1, 3), 0);
        Due.is("13 bad", x.water(2, 0), -1);
        Due.is("13 bad", x.water(-1, 0), -1);
        Due.is("13 bad", x.water(0, 24), -1);
        Due.is("13 bad", x.water(0, -1), -1);
    }

    private static void standsEdges() {
        StiltWays x = new StiltWays();
        for (int depth = 0; depth < 12; depth++) {
            x.place(depth * 3);
        }
        x.person(0, 27, 0);
        x.set(1, 15);
        for (int place = 0; place < 12; place++) {
            Due.is("14 water " + 3 * place, x.stands(0, place, 0), place >= 4 && place <= 9 ? 1 : 0);
        }
        x.set(1, 14);
        Due.is("14 above reach", x.stands(0, 4, 0), 0);
        Due.is("14 bad", x.stands(1, 0, 0), -1);
        Due.is("14 bad", x.stands(-1, 0, 0), -1);
        Due.is("14 bad", x.stands(0, 12, 0), -1);
        Due.is("14 bad", x.stands(0, -1, 0), -1);
        Due.is("14 bad", x.stands(0, 0, 24), -1);
        Due.is("14 bad", x.stands(0, 0, -1), -1);
    }

    private static void standsKinds() {
        StiltWays x = new StiltWays();
        x.place(0);
        x.person(1, 21, 0);
        x.person(2, 21, 0);
        x.person(3, 21, 0);
        x.person(2, 1, 0);
        x.set(1, 3);
        x.years(2);
        int[][] from = {{7, 10}, {16, 19}, {20, 23}, {0, 0}};
        for (int depth = 0; depth <= 40; depth++) {
            x.make(0, 0, depth);
            boolean hinged = within(depth, 7, 10) || within(depth, 18, 21);
            Due.is("14 hinged in " + depth, x.stands(0, 0, 5), hinged ? 1 : 0);
            for (int i = 1; i < 4; i++) {
                boolean due = within(depth, from[i][0], from[i][1]);
                Due.is("14 " + i + " in " + depth, x.stands(i, 0, 5), due ? 1 : 0);
            }
        }
    }

    private static boolean within(int v, int least, int most) {
        return v >= least && v <= most;
    }

    private static void hours() {
        StiltWays x = new StiltWays();
        x.place(10);
        x.place(-1);
        x.person(0, 12, 0);
        x.tide(0, 3);
        x.tide(5, 2);
        x.tide(7, -10);
        x.tide(23, 20);
        x.set(1, 11);
        Due.is("15 hours", x.hours(0, 0), 0xFFFFFF & ~(1 | 1 << 7 | 1 << 23));
        Due.is("15 none but high water", x.hours(0, 1), 1 | 1 << 5);
        x.set(1, 60);
        x.tide(23, 0);
        Due.is("15 all", x.hours(0, 1), 0xFFFFFF);
        Due.is("15 bad", x.hours(1, 0), -1);
        Due.is("15 bad", x.hours(-1, 0), -1);
        Due.is("15 bad", x.hours(0, 2), -1);
        Due.is("15 bad", x.hours(0, -1), -1);
    }

    private static void years() {
        StiltWays x = new StiltWays();
        for (int i = 0; i < 4; i++) {
            x.place(20);
        }
        x.make(0, 2, 1);
        x.make(1, 2, -3);
        x.make(2, 2, 5);
        x.person(3, 4, 0);
        x.person(0, 4, 0);
        Due.is("16 bad", x.years(0), -1);
        Due.is("16 bad", x.years(31), -1);
        Due.is("16 bad", x.years(-1), -1);
        Due.is("16 three", x.years(3), 3);
        int[] depths = {17, 29, 5, 20};
        for (int i = 0; i < 4; i++) {
            Due.is("16 depth", x.make(i, 0, 20), depths[i]);
        }
        Due.is("16 a child", x.of(0, 2), 7);
        Due.is("16 as told", x.of(0, 1), 4);
        Due.is("16 no child", x.of(1, 2), 4);
        Due.is("16 thirty more", x.years(30), 33);
        int[] later = {-10, 60, -20, 20};
        for (int i = 0; i < 4; i++) {
            Due.is("16 bounded", x.make(i, 0, 0), later[i]);
        }
        Due.is("16 gone by", x.count(4), 33);
        x.person(3, 0, 0);
        Due.is("16 each of them", x.of(2, 2), 33);
    }

    private static void yearsBounds() {
        StiltWays x = new StiltWays();
        x.place(0);
        x.make(0, 2, -1);
        for (int i = 1; i <= 33; i++) {
            x.years(30);
        }
        x.make(0, 0, 0);
        Due.is("16 990", x.count(4), 990);
        Due.is("16 full", x.years(10), -3);
        Due.is("16 bad ahead of full", x.years(31), -1);
        Due.is("16 refused changes nothing", x.water(0, 0), 0);
        Due.is("16 999", x.years(9), 999);
        Due.is("16 full", x.years(1), -3);
        Due.is("16 silt", x.water(0, 0), 9);
        Due.is("16 still", x.count(4), 999);
    }

    private static void wayBad() {
        StiltWays x = lagoon("1;2", "ab3");
        x.person(0, 5, 0);
        Due.is("17 bad", x.way(-1, 0, 0, 0), -1);
        Due.is("17 bad", x.way(1, 0, 0, 0), -1);
        Due.is("17 bad", x.way(0, 2, 0, 0), -1);
        Due.is("17 bad", x.way(0, -1, 0, 0), -1);
        Due.is("17 bad", x.way(0, 1, -1, 0), -1);
        Due.is("17 bad", x.way(0, 1, 1440, 0), -1);
        Due.is("17 bad", x.way(0, 1, 0, 2), -1);
        Due.is("17 bad", x.way(0, 1, 0, -1), -1);
        Due.is("17 last minute", x.way(0, 1, 1439, 0), 3);
    }

    private static void wayPlain() {
        StiltWays x = lagoon("1;2;3;4;50", "ab10,bc20,ac40,cd1,de1");
        x.person(0, 5, 0);
        int[] due = {0, 10, 30, 31, -4};
        for (int place = 0; place < 5; place++) {
            Due.is("17 to " + place, x.way(0, place, 100, 0), due[place]);
            Due.is("17 light to " + place, x.way(0, place, 100, 1), due[place] < 0 ? -4 : 0);
        }
        x.path(0, 2, 29);
        Due.is("17 the sooner", x.way(0, 2, 0, 0), 29);
        x.path(0, 1, 0);
        Due.is("17 the other way round", x.way(0, 1, 0, 0), 49);
        x.make(0, 0, 6);
        Due.is("17 he can't be at home", x.way(0, 0, 0, 0), -4);
        Due.is("17 he can't be at home", x.way(0, 1, 0, 0), -4);
        Due.is("17 he can't be at home", x.way(0, 0, 0, 1), -4);
    }

    private static void wayWaits() {
        StiltWays x = lagoon("-20;10", "ab5");
        x.person(0, 10, 0);
        x.tide(3, 20);
        x.tide(4, 1);
        Due.is("17 waits two hours", x.way(0, 1, 180, 0), 125);
        Due.is("17 waits a minute", x.way(0, 1, 299, 0), 6);
        Due.is("17 waits none", x.way(0, 1, 300, 0), 5);
        Due.is("17 comes in time", x.way(0, 1, 174, 0), 5);
        Due.is("17 comes too late", x.way(0, 1, 175, 0), 130);
        x.make(0, 0, -9);
        Due.is("17 can't wait", x.way(0, 1, 175, 0), -4);
    }

    private static void wayBothEnds() {
        StiltWays x = lagoon("5;5;5", "ab60,bc59");
        x.person(0, 5, 0);
        Due.is("17 in an hour", x.way(0, 1, 0, 0), 60);
        x.make(0, 0, 4);
        x.tide(0, 1);
        x.make(1, 0, 3);
        x.make(2, 0, 3);
        x.tide(1, 2);
        Due.is("17 home is too deep as he comes", x.way(0, 1, 0, 0), -4);
        x.path(0, 1, 59);
        Due.is("17 he comes just ahead", x.way(0, 1, 0, 0), 59);
        Due.is("17 a minute late", x.way(0, 1, 1, 0), -4);
        x.tide(1, 0);
        x.tide(0, 3);
        x.make(0, 0, 2);
        Due.is("17 the far end is too deep as he leaves", x.way(0, 1, 5, 0), 114);
    }

    private static void wayInSixHundred() {
        StiltWays x = new StiltWays();
        for (int i = 0; i < 12; i++) {
            x.place(1);
        }
        for (int i = 0; i < 10; i++) {
            x.path(i, i + 1, 60);
        }
        x.path(10, 11, 1);
        x.person(0, 1, 0);
        Due.is("17 600", x.way(0, 10, 77, 0), 600);
        Due.is("17 light in 600", x.way(0, 10, 77, 1), 0);
        Due.is("17 601", x.way(0, 11, 77, 0), -4);
        Due.is("17 light in 601", x.way(0, 11, 77, 1), -4);
        x.person(0, 1, 1);
        Due.is("18 in 600", x.race(1, 10, 77, 0), 0);
        Due.is("18 in 600", x.race(1, 10, 77, 1), 1);
        Due.is("18 in 601", x.race(1, 11, 77, 1), 0);
        Due.is("18 in 600 and 540", x.race(3, 10, 77, 0), 1);
        Due.is("18 in 601 and 541", x.race(3, 11, 77, 1), 1);
        x.path(9, 10, 59);
        Due.is("17 600", x.way(0, 11, 77, 0), 600);
    }

    private static void wayOverMidnight() {
        StiltWays x = lagoon("-20;0", "ab2");
        x.person(0, 3, 0);
        for (int hour = 0; hour < 24; hour++) {
            x.tide(hour, 4);
        }
        x.tide(1, 3);
        Due.is("17 to the next day", x.way(0, 1, 1430, 0), 72);
        Due.is("17 to the next day", x.way(0, 1, 1439, 0), 63);
        Due.is("17 at once", x.way(0, 1, 60, 0), 2);
        Due.is("17 the same day", x.way(0, 1, 0, 0), 62);
        Due.is("17 over the day", x.way(0, 1, 118, 0), -4);
        Due.is("17 just ahead", x.way(0, 1, 117, 0), 2);
    }

    private static void waySplices() {
        StiltWays x = lagoon("5p10;20;30", "ab1,bc1");
        x.person(0, 10, 0);
        Due.is("17 a splice at home", x.way(0, 1, 0, 0), 1);
        Due.is("17 by one", x.way(0, 1, 0, 1), 1);
        Due.is("17 too deep with all", x.way(0, 2, 0, 0), -4);
        x.make(1, 1, 9);
        Due.is("17 still", x.way(0, 2, 0, 0), -4);
        x.make(1, 1, 10);
        Due.is("17 two splices", x.way(0, 2, 0, 0), 2);
        Due.is("17 by two", x.way(0, 2, 0, 1), 2);
        Due.is("17 length stays", x.of(0, 1), 10);
        x.make(0, 1, 0);
        Due.is("17 without the first", x.way(0, 1, 0, 0), -4);
        x = lagoon("5p10;5;25", "ab1,ac1");
        x.person(0, 10, 0);
        Due.is("17 once at each", x.way(0, 2, 0, 0), -4);
        x = lagoon("5;5p10;5p10;5p10;40", "ab1,ac1,ad1,ae1");
        x.person(0, 10, 0);
        x.set(1, 60);
        Due.is("17 three", x.way(0, 4, 0, 0), 7);
        Due.is("17 by three", x.way(0, 4, 0, 1), 3);
        x.make(4, 0, 41);
        Due.is("17 not by three", x.way(0, 4, 0, 1), -4);
    }

    private static void waySplicesByKind() {
        StiltWays x = lagoon("0p1;1", "ab1");
        x.person(2, 1, 0);
        x.person(2, 2, 0);
        x.person(1, 0, 0);
        x.person(1, 1, 0);
        x.person(3, 0, 0);
        Due.is("17 worn 1 and 1", x.way(0, 1, 0, 0), -4);
        Due.is("17 worn 2 and 1", x.way(1, 1, 0, 1), 1);
        Due.is("17 hinged", x.way(2, 1, 0, 1), 1);
        Due.is("17 hinged", x.way(3, 1, 0, 1), 0);
        Due.is("17 a child", x.way(4, 1, 0, 1), 1);
        x.make(1, 0, 3);
        x.years(2);
        Due.is("17 an older child", x.way(4, 1, 0, 1), 1);
        x.years(1);
        Due.is("17 a child of three", x.way(4, 1, 0, 1), 0);
        x.set(1, 0);
        x.make(0, 0, 1);
        x.make(1, 0, 1);
        Due.is("17 half of 1 and 1", x.way(3, 1, 0, 0), 1);
        x.make(1, 0, 2);
        Due.is("17 one end by half, one by all", x.way(3, 1, 0, 1), 1);
    }

    private static void waySpliceMustStand() {
        StiltWays x = lagoon("5p16;21", "ab1");
        x.person(0, 10, 0);
        Due.is("17 too long at home", x.way(0, 1, 0, 0), -4);
        x.make(0, 0, 6);
        Due.is("17 in reach", x.way(0, 1, 0, 0), 1);
        x = lagoon("10;5p16;5;26", "ab1,bc1,cd1");
        x.person(0, 10, 0);
        Due.is("17 left lying", x.way(0, 2, 0, 0), 2);
        Due.is("17 too long at the post", x.way(0, 3, 0, 0), -4);
        x.set(1, 21);
        Due.is("17 in reach", x.way(0, 3, 0, 0), 3);
        x = lagoon("10;15p16;5;26", "ab1,bc1,cd1");
        x.person(0, 10, 0);
        Due.is("17 he must stand there without it, too", x.way(0, 1, 0, 0), -4);
    }

    private static void waySpliceWhenHeComes() {
        StiltWays x = lagoon("0;0p15;15", "ab10,bc10");
        x.person(0, 10, 0);
        x.person(0, 10, 1);
        for (int hour = 1; hour < 24; hour++) {
            x.tide(hour, 5);
        }
        Due.is("17 he comes as the water does", x.way(0, 2, 30, 0), 40);
        Due.is("17 by one", x.way(0, 2, 30, 1), 1);
        Due.is("17 from the post he comes again", x.way(1, 2, 30, 0), 40);
        Due.is("17 at the post, the first minute", x.way(1, 2, 60, 0), 10);
        x.path(0, 1, 0);
        waitingAtPlaceNought();
        Due.is("17 waiting is not coming", x.way(1, 2, 30, 0), -4);
        Due.is("17 at the post, the first minute", x.way(1, 2, 60, 0), 10);
    }

    private static void waitingAtPlaceNought() {
        StiltWays x = lagoon("0p15;15", "ab10");
        x.person(0, 10, 0);
        for (int hour = 1; hour < 24; hour++) {
            x.tide(hour, 5);
        }
        Due.is("17 waiting is not coming", x.way(0, 1, 30, 0), -4);
        Due.is("17 the first minute", x.way(0, 1, 60, 0), 10);
    }

    private static void wayLight() {
        StiltWays x = lagoon("5p10;20;5;20", "ab10,ac60,cd60,bd10");
        x.person(0, 10, 0);
        Due.is("17 soon with a splice", x.way(0, 3, 0, 0), 20);
        Due.is("17 light needs it", x.way(0, 3, 0, 1), 1);
        for (int hour = 2; hour < 24; hour++) {
            x.tide(hour, -10);
        }
        Due.is("17 soon", x.way(0, 3, 0, 0), 20);
        Due.is("17 light is later", x.way(0, 3, 0, 1), 0);
        x.path(2, 3, 0);
        x.path(1, 3, 0);
        Due.is("17 cut off", x.way(0, 3, 0, 1), -4);
    }

    private static void race() {
        StiltWays x = lagoon("1;1;1;40", "ac10,bc10");
        x.person(0, 5, 0);
        x.person(0, 5, 1);
        x.person(0, 5, 2);
        x.person(0, 45, 3);
        x.person(0, 45, 2);
        Due.is("18 who is there", x.race(31, 2, 0, 0), 2);
        Due.is("18 of like ones the least", x.race(3, 2, 0, 0), 0);
        Due.is("18 alone", x.race(2, 2, 0, 0), 1);
        Due.is("18 how many", x.race(31, 2, 0, 1), 3);
        Due.is("18 how many", x.race(27, 2, 0, 1), 2);
        Due.is("18 nobody", x.race(24, 2, 0, 0), -4);
        Due.is("18 nobody", x.race(24, 2, 0, 1), 0);
        x.path(0, 2, 11);
        Due.is("18 the sooner", x.race(3, 2, 0, 0), 1);
        Due.is("18 one is not there", x.race(17, 2, 0, 0), 0);
        x.make(3, 0, 25);
        x.path(3, 0, 9);
        Due.is("18 where nobody else comes", x.race(31, 3, 0, 0), 3);
    }

    private static void raceBad() {
        StiltWays x = lagoon("1;1", "ab10");
        Due.is("18 nobody is there", x.race(1, 0, 0, 0), -1);
        x.person(0, 5, 0);
        x.person(0, 5, 0);
        Due.is("18 empty", x.race(0, 0, 0, 0), -1);
        Due.is("18 not there", x.race(4, 0, 0, 0), -1);
        Due.is("18 not there", x.race(5, 0, 0, 0), -1);
        Due.is("18 not there", x.race(-1, 0, 0, 0), -1);
        Due.is("18 not there", x.race(Integer.MIN_VALUE, 0, 0, 0), -1);
        Due.is("18 bad", x.race(1, 2, 0, 0), -1);
        Due.is("18 bad", x.race(1, -1, 0, 0), -1);
        Due.is("18 bad", x.race(1, 0, -1, 0), -1);
        Due.is("18 bad", x.race(1, 0, 1440, 0), -1);
        Due.is("18 bad", x.race(1, 0, 0, 2), -1);
        Due.is("18 bad", x.race(1, 0, 0, -1), -1);
        Due.is("18 both", x.race(3, 1, 1439, 1), 2);
    }
}
