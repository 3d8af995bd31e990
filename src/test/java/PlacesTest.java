/** Promises 1 to 12: places, people, the tape and its texts. */
final class PlacesTest {
    public static void main(String[] args) {
        newObject();
        place();
        makeDepth();
        makeSplices();
        makeSilt();
        path();
        tide();
        set();
        person();
        of();
        type();
        typeFull();
        lagoonTexts();
        lagoonFaults();
        lagoonReplaces();
        pathTexts();
        pathFaults();
        count();
        Due.end();
    }

    private static void newObject() {
        StiltWays x = new StiltWays();
        for (int what = 0; what <= 4; what++) {
            Due.is("1 count " + what, x.count(what), 0);
        }
        Due.is("1 flood", x.set(0, 0), 0);
        Due.is("1 reach", x.set(1, 20), 20);
        for (int hour = 0; hour < 24; hour++) {
            Due.is("1 tide " + hour, x.tide(hour, 0), 0);
        }
        Due.is("1 no place 0", x.water(0, 0), -1);
        Due.is("1 no image", x.restore(), -4);
        Due.is("1 empty tape", x.type(' ', 1), 1);
        for (int sheet = 0; sheet < 4; sheet++) {
            Due.is("1 no sheet " + sheet, x.drop(sheet), -11);
        }
        Due.is("1 nobody", x.clear(), 0);
        StiltWays other = new StiltWays();
        other.place(1);
        Due.is("1 objects are apart", x.count(0), 0);
    }

    private static void place() {
        StiltWays x = new StiltWays();
        Due.is("2 least", x.place(-20), 0);
        Due.is("2 most", x.place(60), 1);
        Due.is("2 too little", x.place(-21), -1);
        Due.is("2 too much", x.place(61), -1);
        Due.is("2 huge", x.place(Integer.MAX_VALUE), -1);
        Due.is("2 refused changes nothing", x.count(0), 2);
        Due.is("2 depth is kept", x.make(0, 0, 0), -20);
        Due.is("2 depth is kept", x.make(1, 0, 0), 60);
        for (int i = 2; i < 12; i++) {
            Due.is("2 the " + i + "th", x.place(i), i);
        }
        Due.is("2 full", x.place(0), -3);
        Due.is("2 bad ahead of full", x.place(61), -1);
        Due.is("2 still twelve", x.count(0), 12);
        Due.is("2 the last", x.make(11, 0, 0), 11);
        Due.is("2 no splices at first", x.make(11, 1, 0), 0);
        Due.is("2 no silt at first", x.make(11, 2, 0), 0);
    }

    private static void makeDepth() {
        StiltWays x = new StiltWays();
        x.place(7);
        Due.is("3 no such place", x.make(1, 0, 0), -100001);
        Due.is("3 no such place", x.make(-1, 0, 0), -100001);
        Due.is("3 no such what", x.make(0, -1, 0), -100001);
        Due.is("3 no such what", x.make(0, 3, 0), -100001);
        Due.is("3 depth 61", x.make(0, 0, 61), -100001);
        Due.is("3 depth -21", x.make(0, 0, -21), -100001);
        Due.is("3 depth 60", x.make(0, 0, 60), 7);
        Due.is("3 depth -20", x.make(0, 0, -20), 60);
        Due.is("3 below 0", x.make(0, 0, 5), -20);
        Due.is("3 water then", x.water(0, 0), 5);
    }

    private static void makeSplices() {
        StiltWays x = new StiltWays();
        for (int i = 0; i < 5; i++) {
            x.place(0);
        }
        Due.is("3 splices 21", x.make(0, 1, 21), -100001);
        Due.is("3 splices -1", x.make(0, 1, -1), -100001);
        Due.is("3 splices 20", x.make(0, 1, 20), 0);
        Due.is("3 splices 1", x.make(1, 1, 1), 0);
        Due.is("3 splices 2", x.make(2, 1, 2), 0);
        Due.is("3 a fourth", x.make(3, 1, 3), -100003);
        Due.is("3 bad ahead of full", x.make(3, 1, 21), -100001);
        Due.is("3 none where none are", x.make(3, 1, 0), 0);
        Due.is("3 one of the three", x.make(0, 1, 5), 20);
        Due.is("3 one of the three to none", x.make(0, 1, 0), 5);
        Due.is("3 then a third", x.make(3, 1, 3), 0);
        Due.is("3 then a fourth", x.make(0, 1, 1), -100003);
        Due.is("3 refused changes nothing", x.make(0, 1, 0), 0);
        Due.is("3 others may be made", x.make(0, 2, 1), 0);
    }

    private static void makeSilt() {
        StiltWays x = new StiltWays();
        x.place(10);
        Due.is("3 silt 6", x.make(0, 2, 6), -100001);
        Due.is("3 silt -6", x.make(0, 2, -6), -100001);
        Due.is("3 silt 5", x.make(0, 2, 5), 0);
        Due.is("3 silt -5", x.make(0, 2, -5), 5);
        Due.is("3 silt 2", x.make(0, 2, 2), -5);
        x.years(1);
        Due.is("3 silt works", x.make(0, 0, 0), 8);
    }

    private static void path() {
        StiltWays x = new StiltWays();
        x.place(0);
        x.place(0);
        x.place(0);
        Due.is("4 new", x.path(0, 1, 60), 0);
        Due.is("4 again", x.path(1, 0, 1), 60);
        Due.is("4 each pair once", x.count(1), 1);
        Due.is("4 itself", x.path(1, 1, 1), -1);
        Due.is("4 itself, none", x.path(1, 1, 0), -1);
        Due.is("4 no such place", x.path(0, 3, 1), -1);
        Due.is("4 no such place", x.path(3, 0, 1), -1);
        Due.is("4 no such place", x.path(-1, 0, 1), -1);
        Due.is("4 no such place", x.path(0, -1, 1), -1);
        Due.is("4 minutes 61", x.path(0, 1, 61), -1);
        Due.is("4 minutes -1", x.path(0, 1, -1), -1);
        Due.is("4 another", x.path(2, 1, 3), 0);
        Due.is("4 two", x.count(1), 2);
        Due.is("4 none", x.path(0, 1, 0), 1);
        Due.is("4 one", x.count(1), 1);
        Due.is("4 none was there", x.path(0, 1, 0), 0);
        Due.is("4 none was there", x.path(0, 2, 0), 0);
        allPaths();
        Due.is("4 the other", x.path(1, 2, 3), 3);
    }

    private static void allPaths() {
        StiltWays x = new StiltWays();
        for (int i = 0; i < 12; i++) {
            x.place(0);
        }
        x.person(0, 0, 0);
        int all = 0;
        for (int a = 0; a < 12; a++) {
            for (int b = 0; b < a; b++) {
                Due.is("4 all", x.path(b, a, all % 60 + 1), 0);
                all++;
                Due.is("4 how many", x.count(1), all);
            }
        }
        Due.is("4 over all of them", x.way(0, 11, 0, 0), 11 + 1);
    }

    private static void tide() {
        StiltWays x = new StiltWays();
        x.place(0);
        Due.is("5 no hour", x.tide(24, 0), -100001);
        Due.is("5 no hour", x.tide(-1, 0), -100001);
        Due.is("5 21", x.tide(0, 21), -100001);
        Due.is("5 -21", x.tide(0, -21), -100001);
        Due.is("5 -20", x.tide(0, -20), 0);
        Due.is("5 20", x.tide(0, 20), -20);
        Due.is("5 last hour", x.tide(23, 3), 0);
        Due.is("5 water", x.water(0, 0), 20);
        Due.is("5 water", x.water(0, 1), 0);
        Due.is("5 water", x.water(0, 23), 3);
        Due.is("5 was", x.tide(23, 0), 3);
    }

    private static void set() {
        StiltWays x = new StiltWays();
        x.place(0);
        x.person(0, 30, 0);
        Due.is("6 flood -1", x.set(0, -1), -1);
        Due.is("6 flood 41", x.set(0, 41), -1);
        Due.is("6 reach -1", x.set(1, -1), -1);
        Due.is("6 reach 61", x.set(1, 61), -1);
        Due.is("6 no such", x.set(2, 0), -1);
        Due.is("6 no such", x.set(-1, 0), -1);
        Due.is("6 flood 40", x.set(0, 40), 0);
        Due.is("6 water", x.water(0, 0), 40);
        Due.is("6 flood 9", x.set(0, 9), 40);
        Due.is("6 reach 60", x.set(1, 60), 20);
        Due.is("6 reach 0", x.set(1, 0), 60);
        Due.is("6 out of reach", x.stands(0, 0, 0), 0);
        Due.is("6 reach 21", x.set(1, 21), 0);
        Due.is("6 in reach", x.stands(0, 0, 0), 1);
        Due.is("6 flood 0", x.set(0, 0), 9);
    }

    private static void person() {
        StiltWays x = new StiltWays();
        Due.is("7 no home", x.person(0, 1, 0), -1);
        x.place(0);
        Due.is("7 kind 4", x.person(4, 1, 0), -1);
        Due.is("7 kind -1", x.person(-1, 1, 0), -1);
        Due.is("7 length 61", x.person(0, 61, 0), -1);
        Due.is("7 length -1", x.person(0, -1, 0), -1);
        Due.is("7 home 1", x.person(0, 1, 1), -1);
        Due.is("7 home -1", x.person(0, 1, -1), -1);
        for (int i = 0; i < 8; i++) {
            Due.is("7 the " + i + "th", x.person(i % 4, i == 7 ? 60 : i, 0), i);
        }
        Due.is("7 full", x.person(0, 0, 0), -3);
        Due.is("7 bad ahead of full", x.person(0, 0, 1), -1);
        Due.is("7 eight", x.count(2), 8);
    }

    private static void of() {
        StiltWays x = new StiltWays();
        x.place(0);
        x.place(0);
        x.person(0, 11, 1);
        x.person(1, 13, 0);
        x.person(2, 1, 1);
        x.person(3, 60, 0);
        x.person(2, 2, 0);
        x.person(2, 3, 0);
        x.years(4);
        int[][] due = {{0, 11, 11, 1}, {1, 13, 13, 0}, {2, 1, 0, 1}, {3, 60, 64, 0}, {2, 2, 0, 0}, {2, 3, 1, 0}};
        for (int i = 0; i < due.length; i++) {
            for (int what = 0; what < 4; what++) {
                Due.is("8 of " + i + " " + what, x.of(i, what), due[i][what]);
            }
        }
        Due.is("8 nobody", x.of(6, 0), -1);
        Due.is("8 nobody", x.of(-1, 0), -1);
        Due.is("8 no such", x.of(0, 4), -1);
        Due.is("8 no such", x.of(0, -1), -1);
    }

    private static void type() {
        StiltWays x = new StiltWays();
        Due.is("9 none", x.type('5', 0), -1);
        Due.is("9 nine", x.type('5', 9), -1);
        Due.is("9 -1", x.type('5', -1), -1);
        Due.is("9 31", x.type(31, 1), -1);
        Due.is("9 127", x.type(127, 1), -1);
        Due.is("9 0 ahead", x.type('5', 2), -1);
        Due.is("9 a byte below 0", x.type(0x35FFL, 2), -1);
        Due.is("9 the highest of eight", x.type(0x1F35353535353535L, 8), -1);
        Due.is("9 all ones", x.type(-1L, 8), -1);
        Due.is("9 32 and 126", x.type(0x207EL, 2), 2);
        x.lagoon();
        Due.is("9 others are not looked at", x.type(0xFFFFFFFFFFFFFF00L | '1', 1), 1);
        Due.is("9 behind", x.type('2' << 8 | ';', 2), 3);
        Due.is("9 eight", x.type(0x3B3B3B3132333435L, 7), 10);
        Due.is("9 the highest first", x.lagoon(), -20 - 3);
    }

    private static void typeFull() {
        StiltWays x = new StiltWays();
        for (int i = 1; i <= 9; i++) {
            Due.is("9 more", x.type(0x2020202020202020L, 8), 8 * i);
        }
        Due.is("9 76", x.type(0x20202020L, 4), 76);
        Due.is("9 full", x.type(0x2020202020L, 5), -3);
        Due.is("9 bad ahead of full", x.type(31, 5), -1);
        Due.is("9 79", x.type(0x202020L, 3), 79);
        Due.is("9 80", x.type('7', 1), 80);
        Due.is("9 full", x.type('7', 1), -3);
        Due.is("9 the end of 80", x.lagoon(), 1);
        Due.is("9 empty then", x.type('7', 1), 1);
    }

    private static void lagoonTexts() {
        StiltWays x = new StiltWays();
        Due.is("10 one", Due.lagoon(x, "0"), 1);
        Due.is("10 eight", Due.lagoon(x, "1;2;3;4;5;6;7;8"), 8);
        Due.is("10 the eighth", x.make(7, 0, 0), 8);
        Due.is("10 signs", Due.lagoon(x, "-20;60;-0;007p020;-1p1;0p0000009"), 6);
        int[] depths = {-20, 60, 0, 7, -1, 0};
        int[] splices = {0, 0, 0, 20, 1, 9};
        for (int i = 0; i < depths.length; i++) {
            Due.is("10 depth " + i, x.make(i, 0, 0), depths[i]);
            Due.is("10 splices " + i, x.make(i, 1, 0), splices[i]);
        }
        Due.is("10 blanks", Due.lagoon(x, "  - 1 p 2 ;  3  "), 2);
        Due.is("10 depth", x.make(0, 0, 0), -1);
        Due.is("10 splices", x.make(0, 1, 0), 2);
        Due.is("10 depth", x.make(1, 0, 0), 3);
        Due.is("10 no splices of texts ahead", x.make(1, 1, 0), 0);
        Due.is("10 a faulty one", Due.lagoon(x, "1p1;2p2;3p3;"), -32);
        Due.is("10 without splices", Due.lagoon(x, "1;2;3"), 3);
        for (int i = 0; i < 3; i++) {
            Due.is("10 no splices of texts ahead", x.make(i, 1, 0), 0);
        }
        Due.is("10 many 0s", Due.lagoon(x, "0000000000000000000000000000000000000000060"), 1);
        Due.is("10 depth", x.make(0, 0, 0), 60);
        Due.is("10 blanks behind the eighth", Due.lagoon(x, "1;1;1;1;1;1;1;1  "), 8);
    }

    private static void lagoonFaults() {
        Object[][] due = {
            {"", 0}, {"   ", 3}, {"-", 1}, {"- ", 2}, {"61", 0}, {"  61", 2}, {"-21", 1}, {" -  21", 4}, {"--1", 1},
            {"+1", 0}, {"p1", 0}, {";1", 0}, {"1;", 2}, {"1; ", 3}, {"1;;2", 2}, {"1 2", 2}, {"1p", 2}, {"1p ", 3},
            {"1p0", 2}, {"1p00", 2}, {"1p21", 2}, {"1 p 21", 4}, {"1p-1", 2}, {"1p1p1", 3}, {"1p1 1", 4}, {"1x", 1},
            {"1P1", 1}, {"1,2", 1}, {"a", 0}, {"1-", 1}, {"- x", 2}, {"1;99999999999999999999", 2},
            {"4294967296", 0}, {"1p4294967297", 2}, {"1;2;3;4;5;6;7;8;", 15}, {"1;2;3;4;5;6;7;8;9", 15},
            {"1;2;3;4;5;6;7;8 ;9", 16}, {"1p1;1p1;1p1;1p1", 13}, {"1p1;1p1;1p1;1 p", 14}, {"1p1;1p1;1p1;1;1p", 15},
            {"61x", 0}, {"1;~", 2}, {"1:2", 1}, {"1/2", 1}, {"1p1;2;61;;", 6}, {"1 0", 2}, {"6 1", 2}, {"-61", 1},
            {"pp", 0}, {"61p", 0},
            {"61p0", 0}, {"-21p", 1}, {"1p21;x", 2}, {"1;2;3;4;5;6;7;8p", 16}, {"1;2;3;4;5;6;7;8x", 15}};
        for (Object[] row : due) {
            StiltWays x = new StiltWays();
            x.place(3);
            x.place(4);
            x.path(0, 1, 5);
            x.person(0, 5, 1);
            x.need(0, 1, 2);
            x.years(2);
            Due.is("10 fault of " + row[0], Due.lagoon(x, (String) row[0]), -20 - (Integer) row[1]);
            Due.is("10 tape is empty", x.type('1', 1), 1);
            int[] counts = {2, 1, 1, 1, 2};
            for (int what = 0; what < 5; what++) {
                Due.is("10 all else stays of " + row[0], x.count(what), counts[what]);
            }
            Due.is("10 depth stays", x.water(0, 0), 3);
        }
    }

    private static void lagoonReplaces() {
        StiltWays x = new StiltWays();
        for (int i = 0; i < 12; i++) {
            x.place(5);
            x.make(i, 2, 1);
        }
        x.path(0, 1, 5);
        x.path(10, 11, 5);
        x.make(0, 1, 4);
        x.make(10, 1, 4);
        x.make(11, 1, 4);
        x.person(3, 5, 1);
        x.need(0, 1, 2);
        x.tide(3, 4);
        x.set(0, 6);
        x.set(1, 7);
        x.image();
        x.years(9);
        Due.is("10 in place of those told", Due.lagoon(x, "9;8"), 2);
        int[] counts = {2, 0, 0, 0, 0};
        for (int what = 0; what < 5; what++) {
            Due.is("10 none then, " + what, x.count(what), counts[what]);
        }
        Due.is("10 no silt", x.make(0, 2, 0), 0);
        Due.is("10 no splices", x.make(0, 1, 1), 0);
        Due.is("10 three posts are free", x.make(1, 1, 1), 0);
        Due.is("10 tide stays", x.tide(3, 0), 4);
        Due.is("10 flood stays", x.set(0, 0), 6);
        Due.is("10 reach stays", x.set(1, 20), 7);
        for (int i = 2; i < 12; i++) {
            Due.is("10 more places", x.place(1), i);
            Due.is("10 no old splices", x.make(i, 1, 0), 0);
            Due.is("10 no old silt", x.make(i, 2, 0), 0);
        }
        Due.is("10 no old paths", x.count(1), 0);
        Due.is("10 no old paths", x.path(10, 11, 0), 0);
        Due.is("10 image stays", x.restore(), 1);
        Due.is("10 as it was then", x.count(0), 12);
        Due.is("10 a full tape", Due.lagoon(x, " ".repeat(65) + "1;2;3;4;5;6;7;8"), 8);
    }

    private static void pathTexts() {
        StiltWays x = new StiltWays();
        for (int i = 0; i < 12; i++) {
            x.place(0);
        }
        Due.is("11 one", Due.paths(x, "la60"), 1);
        Due.is("11 it takes", x.path(0, 11, 60), 60);
        Due.is("11 they come, too", Due.paths(x, "ab1,bc02, c d 3 ,de4,ef5,fg6,gh7,hi8"), 8);
        Due.is("11 nine", x.count(1), 9);
        for (int i = 0; i < 8; i++) {
            Due.is("11 it takes", x.path(i, i + 1, i + 1), i + 1);
        }
        Due.is("11 told twice", Due.paths(x, "ab5,ba6,kj7"), 3);
        Due.is("11 the last", x.path(0, 1, 6), 6);
        Due.is("11 ten", x.count(1), 10);
        Due.is("11 the old one", x.path(0, 11, 60), 60);
    }

    private static void pathFaults() {
        Object[][] due = {
            {"", 0}, {"  ", 2}, {"a", 1}, {"a ", 2}, {"aa5", 1}, {"ac5", 1}, {"ca5", 0}, {"Ab5", 0}, {"aB5", 1},
            {"ab", 2}, {"ab ", 3}, {"ab0", 2}, {"ab61", 2}, {"ab 061", 3}, {"ab-5", 2}, {"ab5,", 4}, {"ab5, ", 5},
            {"ab5;ab6", 3}, {"ab5,,", 4}, {"ab5 6", 4}, {"ab5x", 3}, {"`a5", 0}, {"ab5,ab6,bb7", 9}, {",ab5", 0},
            {"ab5ba6", 3}, {"5ab", 0}, {"ab6,ab4294967301", 6}, {"ab1,ab2,ab3,ab4,ab5,ab6,ab7,ab8,", 31},
            {"ab1,ab2,ab3,ab4,ab5,ab6,ab7,ab8 ,ab9", 32}, {"am5", 1}, {"a{5", 1}, {"ba99x", 2}, {"ab00", 2}};
        for (Object[] row : due) {
            StiltWays x = new StiltWays();
            x.place(3);
            x.place(4);
            x.path(0, 1, 9);
            Due.is("11 fault of " + row[0], Due.paths(x, (String) row[0]), -20 - (Integer) row[1]);
            Due.is("11 tape is empty", x.type('1', 1), 1);
            Due.is("11 none comes by " + row[0], x.path(0, 1, 9), 9);
        }
        StiltWays x = new StiltWays();
        Due.is("11 no places", Due.paths(x, " ab5"), -21);
        Due.is("11 none come", x.count(1), 0);
        x.place(1);
        Due.is("11 one place", Due.paths(x, "ab5"), -21);
    }

    private static void count() {
        StiltWays x = new StiltWays();
        Due.lagoon(x, "1;2;3");
        Due.paths(x, "ab1,bc2");
        x.person(0, 1, 0);
        for (int i = 0; i < 4; i++) {
            x.need(0, 0, i);
        }
        x.years(5);
        int[] counts = {3, 2, 1, 4, 5};
        for (int what = 0; what < 5; what++) {
            Due.is("12 count " + what, x.count(what), counts[what]);
        }
        Due.is("12 no such", x.count(5), -1);
        Due.is("12 no such", x.count(-1), -1);
    }
}
