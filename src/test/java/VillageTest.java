/** Promises 19 to 29: needs, lengths, meetings, pairs, floods, those carried, what goes wrong, images. */
final class VillageTest {
    public static void main(String[] args) {
        need();
        met();
        lengths();
        lengthsByKind();
        lengthsFirstRow();
        lengthsRefused();
        lengthsOfEight();
        meeting();
        pairs();
        pairsByKind();
        floodAsTheyAre();
        floodChanged();
        floodBad();
        carried();
        carriedBad();
        wrong();
        clear();
        image();
        imageKeepsAll();
        Due.end();
    }

    private static StiltWays lagoon(String places) {
        StiltWays x = new StiltWays();
        Due.is("places " + places, Due.lagoon(x, places) > 0 ? 1 : 0, 1);
        return x;
    }

    private static void need() {
        StiltWays x = lagoon("1;2");
        Due.is("19 nobody", x.need(0, 0, 0), -1);
        x.person(0, 5, 0);
        Due.is("19 bad", x.need(1, 0, 0), -1);
        Due.is("19 bad", x.need(-1, 0, 0), -1);
        Due.is("19 bad", x.need(0, 2, 0), -1);
        Due.is("19 bad", x.need(0, -1, 0), -1);
        Due.is("19 bad", x.need(0, 0, 24), -1);
        Due.is("19 bad", x.need(0, 0, -1), -1);
        for (int i = 0; i < 10; i++) {
            Due.is("19 its number", x.need(0, i % 2, i + 14), i);
        }
        Due.is("19 full", x.need(0, 0, 0), -3);
        Due.is("19 bad ahead of full", x.need(0, 0, 24), -1);
        Due.is("19 ten", x.count(3), 10);
    }

    private static void met() {
        StiltWays x = lagoon("10;20");
        Due.is("20 no needs", x.met(), 0);
        x.person(0, 20, 0);
        x.person(1, 24, 1);
        x.person(3, 8, 0);
        x.need(0, 0, 0);
        x.need(0, 1, 1);
        x.need(1, 0, 2);
        x.need(1, 1, 3);
        x.need(2, 0, 4);
        Due.is("20 but the child", x.met(), 15);
        x.set(1, 5);
        Due.is("20 in reach", x.met(), 2 + 4 + 8);
        x.tide(1, 1);
        Due.is("20 at an hour", x.met(), 4 + 8);
        x.years(2);
        Due.is("20 the child has grown", x.met(), 4 + 8 + 16);
        x.set(0, 3);
        Due.is("20 a flood", x.met(), 8);
    }

    private static void lengths() {
        StiltWays x = lagoon("10;20;30;60");
        for (int i = 0; i < 4; i++) {
            x.person(0, 0, i);
        }
        x.set(1, 0);
        x.need(0, 0, 0);
        Due.is("21 one", x.lengths(-1), 1);
        Due.is("21 the one", x.lengths(0), 10);
        Due.is("21 no second", x.lengths(1), -4);
        x.need(1, 1, 0);
        x.need(2, 2, 0);
        x.need(3, 3, 0);
        Due.is("21 four", x.lengths(-1), 4);
        for (int i = 0; i < 4; i++) {
            Due.is("21 the " + i + "th", x.lengths(i), i == 3 ? 60 : 10 * i + 10);
        }
        Due.is("21 no fifth", x.lengths(4), -4);
        x.set(1, 10);
        Due.is("21 three", x.lengths(-1), 3);
        Due.is("21 first row", x.lengths(0), 10);
        Due.is("21 first row", x.lengths(1), 30);
        Due.is("21 first row", x.lengths(2), 60);
        x.set(1, 60);
        Due.is("21 one", x.lengths(-1), 1);
        Due.is("21 the longest", x.lengths(0), 60);
        x.set(0, 1);
        Due.is("21 by none", x.lengths(-1), -4);
        Due.is("21 by none", x.lengths(0), -4);
    }

    private static void lengthsByKind() {
        StiltWays x = lagoon("9;4");
        x.set(1, 0);
        x.person(1, 0, 0);
        x.need(0, 0, 0);
        x.need(0, 1, 0);
        Due.is("21 hinged, 9 and 4", x.lengths(0), 9);
        x.make(1, 0, 5);
        Due.is("21 hinged, 9 and 5", x.lengths(-1), -4);
        x.make(0, 0, 5);
        Due.is("21 hinged, all", x.lengths(0), 5);
        x.clear();
        x.person(1, 0, 0);
        x.make(0, 0, 30);
        x.need(0, 0, 0);
        Due.is("21 hinged, all ahead of half", x.lengths(0), 30);
        x.make(0, 0, 31);
        x.clear();
        x.person(2, 0, 0);
        x.need(0, 0, 0);
        Due.is("21 worn", x.lengths(0), 33);
        x.make(0, 0, 59);
        Due.is("21 worn, too deep", x.lengths(0), -4);
        x.make(0, 0, 0);
        Due.is("21 worn, none", x.lengths(0), 0);
        x.make(0, 0, 60);
        x.clear();
        x.person(3, 0, 0);
        x.need(0, 0, 0);
        x.years(7);
        Due.is("21 a child", x.lengths(0), 53);
        x.make(0, 0, 6);
        Due.is("21 a child too long", x.lengths(0), -4);
    }

    /** 20 serves two hinged ones, and so does 40 one of them: of like rows that with the least LENGTHS is due. */
    private static void lengthsFirstRow() {
        StiltWays x = lagoon("0;20;21;40");
        x.set(1, 0);
        x.person(0, 0, 0);
        x.person(1, 0, 0);
        x.person(1, 0, 0);
        x.person(0, 0, 0);
        x.need(0, 0, 0);
        x.need(1, 1, 0);
        x.need(2, 2, 0);
        Due.is("21 three", x.lengths(-1), 3);
        Due.is("21 0", x.lengths(0), 0);
        Due.is("21 20", x.lengths(1), 20);
        Due.is("21 21", x.lengths(2), 21);
        x.make(2, 0, 10);
        Due.is("21 two", x.lengths(-1), 2);
        Due.is("21 20 serves both", x.lengths(1), 20);
        x.need(3, 3, 0);
        Due.is("21 three", x.lengths(-1), 3);
        Due.is("21 0", x.lengths(0), 0);
        Due.is("21 10, as 40 serves by half", x.lengths(1), 10);
        Due.is("21 40", x.lengths(2), 40);
    }

    private static void lengthsRefused() {
        StiltWays x = lagoon("1");
        Due.is("21 no needs", x.lengths(-1), -2);
        Due.is("21 no needs", x.lengths(0), -2);
        Due.is("21 no needs", x.lengths(99), -2);
        Due.is("21 bad ahead of not", x.lengths(-2), -1);
        Due.is("21 bad", x.lengths(Integer.MIN_VALUE), -1);
        x.person(0, 5, 0);
        Due.is("21 still no needs", x.lengths(0), -2);
        x.need(0, 0, 0);
        Due.is("21 needs", x.lengths(0), 1);
        Due.is("21 no such", x.lengths(Integer.MAX_VALUE), -4);
        Due.is("21 bad", x.lengths(-2), -1);
    }

    private static void lengthsOfEight() {
        StiltWays x = lagoon("10;20;30;40;50;60;5;15");
        x.set(1, 0);
        for (int i = 0; i < 8; i++) {
            x.person(0, 60, 0);
            x.need(i, i, i);
        }
        Due.is("21 eight", x.lengths(-1), 8);
        int[] row = {5, 10, 15, 20, 30, 40, 50, 60, -4};
        for (int i = 0; i < 9; i++) {
            Due.is("21 the " + i + "th of eight", x.lengths(i), row[i]);
        }
        x.need(7, 7, 8);
        x.need(7, 7, 9);
        Due.is("21 ten needs", x.lengths(-1), 8);
        x.tide(9, 1);
        Due.is("21 the tenth can't be met", x.lengths(-1), -4);
        x.set(1, 1);
        Due.is("21 the tenth can be met", x.lengths(2), 16);
        x.clear();
        x.person(0, 0, 0);
        x.need(0, 0, 0);
        Due.is("21 of others", x.lengths(-1), 1);
    }

    private static void meeting() {
        StiltWays x = lagoon("0;-1;-5");
        Due.is("22 bad", x.meeting(3), -1);
        Due.is("22 bad", x.meeting(-1), -1);
        Due.is("22 nobody", x.meeting(0), 1);
        Due.is("22 nobody", x.meeting(1), 0);
        Due.is("22 nobody", x.meeting(2), 0);
        x.person(0, 5, 0);
        x.person(0, 25, 0);
        Due.is("22 the first", x.meeting(0), 1);
        x.tide(7, 10);
        Due.is("22 by tide", x.meeting(0), 2);
        Due.is("22 by tide", x.meeting(1), 7);
        Due.is("22 by tide", x.meeting(2), 2);
        x.tide(6, 6);
        Due.is("22 by hour ahead of place", x.meeting(0), 1);
        Due.is("22 by hour ahead of place", x.meeting(1), 6);
        x.tide(5, 10);
        Due.is("22 by hour ahead of place", x.meeting(0), 2);
        Due.is("22 by hour ahead of place", x.meeting(1), 5);
        x.make(1, 0, 0);
        x.make(2, 0, 0);
        Due.is("22 no bar", x.meeting(0), -4);
        Due.is("22 no bar", x.meeting(1), -4);
        Due.is("22 no bar", x.meeting(2), -4);
        Due.is("22 bad ahead of none", x.meeting(3), -1);
        x.clear();
        x.make(2, 0, -1);
        Due.is("22 the one bar", x.meeting(0), 2);
        x.make(0, 0, -1);
        Due.is("22 place 0", x.meeting(0), 0);
        for (int i = 3; i < 12; i++) {
            x.place(-2);
        }
        for (int i = 0; i < 8; i++) {
            x.person(0, 20, 0);
        }
        x.tide(0, -20);
        x.tide(1, 3);
        x.set(1, 19);
        Due.is("22 all at a high tide", x.meeting(0), 0);
        Due.is("22 all at a high tide", x.meeting(1), 1);
        Due.is("22 all at a high tide", x.meeting(2), 8);
        x.set(1, 18);
        Due.is("22 none but in the deepest", x.meeting(0), 0);
        x.set(1, 3);
        x.tide(7, 0);
        Due.is("22 none anywhere", x.meeting(0), 0);
        Due.is("22 none anywhere", x.meeting(1), 0);
        Due.is("22 none anywhere", x.meeting(2), 0);
        Due.is("22 no places", new StiltWays().meeting(2), -4);
    }

    private static void pairs() {
        StiltWays x = lagoon("1");
        Due.is("23 nobody", x.pairs(60), 0);
        int[] lengths = {30, 10, 20, 41, 60, 0, 50};
        for (int length : lengths) {
            x.person(0, length, 0);
        }
        int[] due = {0, 0, 0, 0, 0, 0, 0, 0, 0, 1, 3, 3};
        Due.is("23 9", x.pairs(9), 1);
        for (int apart = 0; apart <= 8; apart++) {
            Due.is("23 " + apart, x.pairs(apart), due[apart]);
        }
        Due.is("23 10", x.pairs(10), 3);
        Due.is("23 60", x.pairs(60), 3);
        x.person(0, 30, 0);
        Due.is("23 like ones", x.pairs(0), 1);
        Due.is("23 10", x.pairs(10), 3);
        Due.is("23 60", x.pairs(60), 4);
        Due.is("23 bad", x.pairs(-1), -1);
        Due.is("23 bad", x.pairs(61), -1);
    }

    private static void pairsByKind() {
        StiltWays x = lagoon("1");
        x.person(1, 20, 0);
        x.person(2, 22, 0);
        x.person(3, 17, 0);
        x.person(0, 10, 0);
        Due.is("23 hinged as told, worn", x.pairs(0), 1);
        Due.is("23 10, 17, 20, 20", x.pairs(6), 1);
        Due.is("23 10, 17, 20, 20", x.pairs(7), 2);
        x.years(3);
        Due.is("23 10, 20, 20, 20", x.pairs(9), 1);
        Due.is("23 10, 20, 20, 20", x.pairs(10), 2);
        x.years(30);
        Due.is("23 10, 20, 20, 50", x.pairs(29), 1);
        Due.is("23 10, 20, 20, 50", x.pairs(30), 2);
    }

    private static void floodAsTheyAre() {
        StiltWays x = lagoon("0;10;-10");
        x.person(0, 15, 0);
        x.person(0, 15, 1);
        x.person(0, 15, 2);
        Due.is("24 none", x.flood(0, -1), 0);
        Due.is("24 5", x.flood(5, -1), 0);
        Due.is("24 6", x.flood(6, -1), 2);
        Due.is("24 16", x.flood(16, -1), 3);
        Due.is("24 26", x.flood(26, -1), 7);
        x.set(0, 40);
        Due.is("24 in place of that told", x.flood(0, -1), 0);
        Due.is("24 told stays", x.set(0, 0), 40);
        x.tide(23, 6);
        Due.is("24 some hour", x.flood(0, -1), 2);
        x.tide(23, 0);
        x.tide(0, 6);
        Due.is("24 the first hour", x.flood(0, -1), 2);
        x.tide(0, 0);
        x.set(1, 14);
        Due.is("24 above reach", x.flood(0, -1), 5);
        Due.is("24 above reach", x.flood(1, -1), 4);
    }

    private static void floodChanged() {
        StiltWays x = lagoon("0;10;20;30");
        x.person(0, 40, 0);
        x.person(0, 5, 3);
        x.person(0, 25, 1);
        x.person(0, 20, 2);
        Due.is("24 as they are", x.flood(0, -1), 3);
        Due.is("24 changed", x.flood(0, -2), 0);
        int[] row = {1, 0, 2, 3};
        for (int i = 0; i < 4; i++) {
            Due.is("24 whose", x.flood(0, i), row[i]);
        }
        x.set(1, 60);
        Due.is("24 first row", x.flood(0, 0), 1);
        Due.is("24 30 more", x.flood(30, -2), 3);
        int[] late = {0, 1, 2, 3};
        for (int i = 0; i < 4; i++) {
            Due.is("24 first row", x.flood(30, i), late[i]);
        }
        Due.is("24 all", x.flood(40, -2), 3);
        x.set(1, 0);
        Due.is("24 all drown", x.flood(7, -2), 4);
        Due.is("24 as they are", x.flood(7, 2), 2);
        x.clear();
        x.person(2, 12, 0);
        x.person(3, 10, 0);
        x.person(1, 14, 0);
        Due.is("24 by kind", x.flood(10, -1), 4);
        Due.is("24 by kind", x.flood(7, -2), 2);
        Due.is("24 by kind", x.flood(7, 0), 0);
        Due.is("24 by kind", x.flood(5, -2), 2);
        Due.is("24 a hinged one by half", x.flood(5, 2), 1);
        x.years(2);
        Due.is("24 a grown child", x.flood(12, -2), 0);
        Due.is("24 a grown child", x.flood(12, 0), 2);
        Due.is("24 a grown child", x.flood(12, 1), 1);
        Due.is("24 a grown child", x.flood(12, 2), 0);
    }

    private static void floodBad() {
        StiltWays x = lagoon("0");
        Due.is("24 nobody", x.flood(0, 0), -1);
        Due.is("24 nobody", x.flood(40, -1), 0);
        Due.is("24 nobody", x.flood(40, -2), 0);
        x.person(0, 5, 0);
        Due.is("24 bad", x.flood(-1, 0), -1);
        Due.is("24 bad", x.flood(41, 0), -1);
        Due.is("24 bad", x.flood(0, -3), -1);
        Due.is("24 bad", x.flood(0, 1), -1);
        Due.is("24 alone", x.flood(0, 0), 0);
        for (int i = 1; i < 8; i++) {
            x.person(0, 5, 0);
        }
        Due.is("24 eight", x.flood(6, -1), 255);
        Due.is("24 eight", x.flood(6, -2), 8);
        Due.is("24 eight", x.flood(6, 7), 7);
        x.clear();
        x.set(1, 0);
        for (int i = 0; i < 8; i++) {
            x.make(0, 0, 0);
            x.person(i == 7 ? 2 : 0, i == 0 ? 9 : i == 1 ? 7 : 30, 0);
        }
        Due.is("24 all but 0 and 7", x.flood(7, -2), 6);
        int[] row = {1, 2, 3, 4, 5, 6, 7, 0};
        for (int i = 0; i < 8; i++) {
            Due.is("24 eight, " + i, x.flood(7, i), row[i]);
        }
    }

    private static void carried() {
        StiltWays x = lagoon("10");
        for (int i = 0; i < 8; i++) {
            x.person(0, i < 3 ? 9 : 10 + i, 0);
        }
        Due.is("25 three by five", x.carried(255, 0, 0), 60);
        Due.is("25 three by three", x.carried(63, 0, 0), 6);
        Due.is("25 two by five", x.carried(0xF9 | 2, 0, 0), 20);
        Due.is("25 one by one", x.carried(9, 0, 0), 1);
        Due.is("25 three by two", x.carried(31, 0, 0), 0);
        Due.is("25 one by none", x.carried(1, 0, 0), 0);
        Due.is("25 all stand", x.carried(0xF8, 0, 0), 1);
        x.tide(3, 4);
        Due.is("25 at an hour", x.carried(0xF1, 0, 3), 4);
        Due.is("25 at an hour", x.carried(0xFA, 0, 3), 12);
        x.set(1, 4);
        Due.is("25 too long, too", x.carried(0xFF, 0, 0), 0);
        Due.is("25 too long, too", x.carried(0x18, 0, 0), 1);
        Due.is("25 too long, too", x.carried(0x28, 0, 0), 1);
    }

    private static void carriedBad() {
        StiltWays x = lagoon("10");
        Due.is("25 nobody", x.carried(1, 0, 0), -1);
        x.person(0, 10, 0);
        x.person(0, 10, 0);
        Due.is("25 empty", x.carried(0, 0, 0), -1);
        Due.is("25 not there", x.carried(4, 0, 0), -1);
        Due.is("25 not there", x.carried(-1, 0, 0), -1);
        Due.is("25 bad", x.carried(3, 1, 0), -1);
        Due.is("25 bad", x.carried(3, -1, 0), -1);
        Due.is("25 bad", x.carried(3, 0, 24), -1);
        Due.is("25 bad", x.carried(3, 0, -1), -1);
        Due.is("25 both", x.carried(3, 0, 23), 1);
    }

    private static void wrong() {
        StiltWays x = lagoon("10;10;10;60");
        Due.is("26 nobody", x.wrong(1, 0), 0);
        x.make(0, 2, 1);
        x.make(1, 2, -1);
        x.make(3, 2, -1);
        x.person(0, 25, 0);
        x.person(0, 15, 1);
        x.person(3, 29, 2);
        x.person(0, 9, 0);
        x.person(0, 60, 3);
        Due.is("26 in 1", x.wrong(1, 0), 0);
        Due.is("26 in 2", x.wrong(2, 0), 4);
        Due.is("26 in 5", x.wrong(5, 0), 4);
        Due.is("26 in 6", x.wrong(6, 0), 7);
        Due.is("26 in 30", x.wrong(30, 0), 7);
        Due.is("26 no years go by", x.count(4), 0);
        Due.is("26 no silt comes", x.water(0, 0), 10);
        x.tide(5, 5);
        Due.is("26 at an hour", x.wrong(1, 5), 2);
        Due.is("26 at an hour", x.wrong(10, 5), 2 | 4);
        Due.is("26 at an hour", x.wrong(11, 5), 1 | 2 | 4);
        for (int i = 5; i < 8; i++) {
            x.person(0, 15, 1);
        }
        Due.is("26 of eight", x.wrong(6, 0), 7 + 32 + 64 + 128);
        Due.is("26 bad", x.wrong(0, 0), -1);
        Due.is("26 bad", x.wrong(31, 0), -1);
        Due.is("26 bad", x.wrong(1, 24), -1);
        Due.is("26 bad", x.wrong(1, -1), -1);
    }

    private static void clear() {
        StiltWays x = lagoon("1;2");
        x.path(0, 1, 2);
        x.person(0, 1, 0);
        x.person(0, 1, 0);
        x.need(0, 0, 0);
        x.years(1);
        Due.is("27 two", x.clear(), 2);
        int[] counts = {2, 1, 0, 0, 1};
        for (int what = 0; what < 5; what++) {
            Due.is("27 count " + what, x.count(what), counts[what]);
        }
        Due.is("27 nobody", x.of(0, 0), -1);
        Due.is("27 none", x.clear(), 0);
        Due.is("27 from 0 again", x.person(1, 7, 1), 0);
        Due.is("27 from 0 again", x.need(0, 0, 0), 0);
    }

    private static void image() {
        StiltWays x = new StiltWays();
        Due.is("29 none", x.restore(), -4);
        Due.is("28 of an empty lagoon", x.image(), 1);
        x.place(1);
        Due.is("29 as it was", x.restore(), 1);
        Due.is("29 as it was", x.count(0), 0);
        x.place(2);
        Due.is("28 another", x.image(), 1);
        x.make(0, 0, 9);
        Due.is("29 as it was", x.restore(), 1);
        Due.is("29 as it was", x.make(0, 0, 8), 2);
        Due.is("29 once more", x.restore(), 1);
        Due.is("29 once more", x.water(0, 0), 2);
        x.type('1', 1);
        x.sheet(0, 0, 3);
        x.restore();
        Due.is("29 the tape stays", x.type('1', 1), 2);
        Due.is("29 sheets stay", x.drop(0), 3);
        Due.is("29 the tape is not kept", x.lagoon(), 1);
    }

    private static void imageKeepsAll() {
        StiltWays x = lagoon("1p2;3;4p5");
        Due.paths(x, "ab6,bc7");
        x.make(1, 2, -2);
        x.tide(9, 8);
        x.set(0, 9);
        x.set(1, 10);
        x.person(2, 11, 1);
        x.need(0, 2, 13);
        x.years(4);
        x.image();
        Due.lagoon(x, "-9p9;-8p8;-7p7;-6;-5");
        Due.paths(x, "ab1,bc2,ca3,ae4");
        x.make(1, 2, 3);
        x.tide(9, 1);
        x.set(0, 1);
        x.set(1, 1);
        x.person(0, 1, 0);
        x.person(0, 1, 0);
        x.need(1, 0, 1);
        x.need(1, 0, 1);
        x.years(9);
        Due.is("29 all", x.restore(), 1);
        int[] counts = {3, 2, 1, 1, 4};
        for (int what = 0; what < 5; what++) {
            Due.is("29 count " + what, x.count(what), counts[what]);
        }
        int[][] made = {{1, 2, 0}, {11, 0, -2}, {4, 5, 0}};
        for (int place = 0; place < 3; place++) {
            for (int what = 0; what < 3; what++) {
                Due.is("29 made " + place + " " + what, x.make(place, what, 0), made[place][what]);
            }
        }
        Due.is("29 path", x.path(0, 1, 0), 6);
        Due.is("29 path", x.path(2, 1, 0), 7);
        Due.is("29 path", x.path(0, 2, 0), 0);
        Due.is("29 tide", x.tide(9, 0), 8);
        Due.is("29 flood", x.set(0, 0), 9);
        Due.is("29 reach", x.set(1, 60), 10);
        int[] one = {2, 11, 9, 1};
        for (int what = 0; what < 4; what++) {
            Due.is("29 of " + what, x.of(0, what), one[what]);
        }
        Due.is("29 need", x.met(), 1);
        x.make(2, 0, 9);
        Due.is("29 need", x.met(), 1);
        x.make(2, 0, 10);
        Due.is("29 need", x.met(), 0);
        x.tide(13, -1);
        Due.is("29 need", x.met(), 1);
        Due.is("29 the image is its own", x.restore(), 1);
        Due.is("29 the image is its own", x.make(2, 0, 0), 4);
        Due.is("29 the image is its own", x.tide(13, 0), 0);
        Due.is("29 the image is its own", x.path(0, 1, 0), 6);
        Due.is("29 no more places", x.water(3, 0), -1);
        Due.is("29 a new place", x.place(0), 3);
        Due.is("29 a new place has no splices", x.make(3, 1, 0), 0);
        Due.is("29 a new place has no paths", x.count(1), 1);
    }
}
