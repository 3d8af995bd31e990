/** The Terms of sheets and promises 30 to 34: a test for each sentence. */
final class BoundsOfSheets {
    private static final int BAD = StiltWays.BAD, NOT = StiltWays.NOT, NULL = StiltWays.NULL, CAST = StiltWays.CAST,
        INDEX = StiltWays.INDEX, SIZE = StiltWays.SIZE;

    private BoundsOfSheets() {
    }

    static void run() {
        sheetsMissing();
        lanesWithASign();
        itemsOfARow();
        tides();
        tidesBad();
        tidesNull();
        tidesCast();
        tidesIndex();
        tidesNot();
        sheet();
        sheetBad();
        sheetSize();
        drop();
        dropBad();
        dropNull();
        item();
        itemBad();
        itemNull();
        itemCast();
        itemIndex();
        copy();
        copyAsIfTakenAhead();
        copyBad();
        copyNull();
        copyCast();
        copyIndex();
    }

    /** A row of 24 items, from a number on. */
    private static StiltWays row(int sheet, int lane, int from) {
        StiltWays x = new StiltWays();
        fill(x, sheet, lane, from);
        return x;
    }

    private static void fill(StiltWays x, int sheet, int lane, int from) {
        x.sheet(sheet, lane, 24);
        for (int i = 0; i < 24; i++) {
            x.item(sheet, lane, i, from + i);
        }
    }

    /** The items of a row of 24 are seen by THE TIDE. */
    private static void holds(StiltWays x, int sheet, int lane, int... row) {
        Due.is("they are tides", x.tides(sheet, lane), 1);
        for (int i = 0; i < row.length; i++) {
            Due.is("item " + i, x.tide(i, 0), row[i]);
        }
    }

    private static void sheetsMissing() {
        Told.of(0, "sheets 0 .. 3: nothing (at first),");
        StiltWays x = new StiltWays();
        Due.outside("sheet", 0, 3, BAD, x::drop);
        for (int sheet = 0; sheet < 4; sheet++) {
            Due.is("nothing at first", x.drop(sheet), NULL);
            Due.is("a row", x.sheet(sheet, 0, sheet), sheet);
        }
        for (int sheet = 0; sheet < 4; sheet++) {
            Due.is("each its own", x.drop(sheet), sheet);
            Due.is("nothing then", x.drop(sheet), NULL);
        }
    }

    private static void lanesWithASign() {
        Told.of(0, "or a row of a LANE: 0 bytes, 1 shorts, 2 ints (all with a sign),");
        int[] vs = {20, -20, 127, 128, 255, 256, 236, 276, 32767, 32768, 65535, 65536, 65516, 65556, 1 << 24,
            -128, -129, -236, -276, -32768, -32769, -65516, -65556, Integer.MAX_VALUE, Integer.MIN_VALUE,
            Integer.MIN_VALUE + 20};
        for (int lane = 0; lane < 3; lane++) {
            for (int v : vs) {
                StiltWays x = row(3, lane, -3);
                int kept = lane == 0 ? (byte) v : lane == 1 ? (short) v : v;
                Due.is("it becomes " + v, x.item(3, lane, 5, v), 1);
                Due.is("lane " + lane + ", " + v, x.tides(3, lane), kept >= -20 && kept <= 20 ? 1 : -2);
                if (kept >= -20 && kept <= 20) {
                    Due.is("lane " + lane + ", " + v, x.tide(5, 0), kept);
                    Due.is("no other", x.tide(6, 0), 3);
                }
            }
        }
        StiltWays x = new StiltWays();
        Due.outside("lane", 0, 2, BAD, v -> x.sheet(0, v, 1));
    }

    private static void itemsOfARow() {
        Told.of(0, "of 0 to 24 items.");
        StiltWays x = new StiltWays();
        for (int n = 0; n <= 24; n++) {
            int most = n - 1;
            Due.is("a row", x.sheet(2, 1, n), n);
            Due.outside("item of " + n, 0, most, INDEX, v -> x.item(2, 1, v, 0));
            Due.is("the last", x.item(2, 1, n - 1, 0), n == 0 ? INDEX : 1);
            Due.is("the first", x.item(2, 1, 0, 0), n == 0 ? INDEX : 1);
            Due.is("how many", x.drop(2), n);
        }
        Due.is("25", x.sheet(2, 1, 25), BAD);
        Due.is("none came", x.drop(2), NULL);
    }

    private static void tides() {
        Told.of(30, "THE TIDE becomes 24 items (-20 .. 20) of a SHEET, taken as a row of a LANE: 1.");
        int[] due = new int[24];
        for (int lane = 0; lane < 3; lane++) {
            StiltWays x = row(lane + 1, lane, -20);
            x.item(lane + 1, lane, 23, 20);
            for (int i = 0; i < 24; i++) {
                due[i] = i == 23 ? 20 : i - 20;
            }
            holds(x, lane + 1, lane, due);
            x.tide(0, 7);
            Due.is("the row stays as it is", x.tides(lane + 1, lane), 1);
            Due.is("the row stays as it is", x.tide(0, 0), -20);
        }
    }

    private static void tidesBad() {
        Told.of(30, "BAD;");
        StiltWays x = row(0, 0, 0);
        Due.outside("sheet", 0, 3, BAD, v -> x.tides(v, 0));
        Due.outside("lane", 0, 2, BAD, v -> x.tides(0, v));
        Due.outside("lane of nothing", 0, 2, BAD, v -> x.tides(3, v));
    }

    private static void tidesNull() {
        Told.of(30, "NULL;");
        StiltWays x = row(0, 0, 0);
        for (int lane = 0; lane < 3; lane++) {
            Due.is("nothing at first", x.tides(3, lane), NULL);
        }
        x.drop(0);
        for (int lane = 0; lane < 3; lane++) {
            Due.is("nothing then", x.tides(0, lane), NULL);
        }
    }

    private static void tidesCast() {
        Told.of(30, "CAST;");
        for (int lane = 0; lane < 3; lane++) {
            StiltWays x = row(0, lane, -3);
            for (int as = 0; as < 3; as++) {
                Due.is("lane " + lane + " as " + as, x.tides(0, as), as == lane ? 1 : CAST);
            }
            x.sheet(0, lane, 0);
            Due.is("ahead of index", x.tides(0, (lane + 1) % 3), CAST);
        }
    }

    private static void tidesIndex() {
        Told.of(30, "INDEX: it has fewer;");
        StiltWays x = new StiltWays();
        for (int n = 0; n < 24; n++) {
            x.sheet(0, 2, n);
            Due.is(n + " items", x.tides(0, 2), INDEX);
        }
        x.item(0, 2, 0, 21);
        Due.is("ahead of not", x.tides(0, 2), INDEX);
        x.sheet(0, 2, 24);
        Due.is("24 items", x.tides(0, 2), 1);
    }

    private static void tidesNot() {
        Told.of(30, "NOT: one is not as told.");
        for (int i = 0; i < 24; i++) {
            StiltWays x = row(0, 2, -4);
            x.tides(0, 2);
            for (int v : new int[] {21, -21, Integer.MAX_VALUE, Integer.MIN_VALUE}) {
                x.item(0, 2, (i + 1) % 24, 9);
                x.item(0, 2, i, v);
                Due.is("item " + i + " of " + v, x.tides(0, 2), NOT);
                Due.is("no tide comes", x.tide((i + 1) % 24, (i + 1) % 24 - 4), (i + 1) % 24 - 4);
                Due.is("no tide comes", x.tide(i, i - 4), i - 4);
            }
            x.item(0, 2, i, -20);
            Due.is("item " + i + " of -20", x.tides(0, 2), 1);
        }
    }

    private static void sheet() {
        Told.of(31, "A SHEET holds a new row of a LANE: n.");
        StiltWays x = row(1, 0, -3);
        Due.is("none", x.sheet(0, 2, 0), 0);
        Due.is("none is a row", x.drop(0), 0);
        Due.is("new", x.sheet(1, 0, 24), 24);
        holds(x, 1, 0, new int[24]);
        Due.is("of another lane", x.sheet(1, 2, 24), 24);
        Due.is("the old lane", x.tides(1, 0), CAST);
        holds(x, 1, 2, new int[24]);
        fill(x, 1, 2, -3);
        Due.is("fewer", x.sheet(1, 2, 3), 3);
        Due.is("and more", x.sheet(1, 2, 24), 24);
        holds(x, 1, 2, new int[24]);
    }

    private static void sheetBad() {
        Told.of(31, "BAD: also n above 24;");
        StiltWays x = row(1, 0, -3);
        Due.outside("sheet", 0, 3, BAD, v -> x.sheet(v, 0, 1));
        Due.outside("lane", 0, 2, BAD, v -> x.sheet(1, v, 1));
        Due.is("25", x.sheet(1, 0, 25), BAD);
        Due.is("far above", x.sheet(1, 0, Integer.MAX_VALUE), BAD);
        Due.is("ahead of size", x.sheet(4, 0, -1), BAD);
        Due.is("ahead of size", x.sheet(1, 3, -1), BAD);
        Due.is("the row stays", x.tides(1, 0), 1);
        Due.is("its items stay", x.tide(0, 0), -3);
    }

    private static void sheetSize() {
        Told.of(31, "SIZE: n below 0.");
        StiltWays x = row(1, 0, -3);
        Due.is("-1", x.sheet(1, 0, -1), SIZE);
        Due.is("-1", x.sheet(1, 2, -1), SIZE);
        Due.is("far below", x.sheet(1, 0, Integer.MIN_VALUE), SIZE);
        Due.is("of nothing", x.sheet(0, 0, -1), SIZE);
        Due.is("nothing still", x.drop(0), NULL);
        Due.is("the row stays", x.tides(1, 0), 1);
        Due.is("0", x.sheet(1, 0, 0), 0);
    }

    private static void drop() {
        Told.of(32, "A SHEET holds nothing: how many items it had.");
        StiltWays x = row(1, 0, -3);
        x.sheet(2, 0, 0);
        Due.is("24", x.drop(1), 24);
        Due.is("0", x.drop(2), 0);
        Due.is("nothing", x.tides(1, 0), NULL);
        Due.is("nothing", x.item(1, 0, 0, 0), NULL);
        Due.is("nothing", x.item(2, 0, 0, 0), NULL);
        Due.is("a new row", x.sheet(1, 0, 24), 24);
        holds(x, 1, 0, new int[24]);
    }

    private static void dropBad() {
        Told.of(32, "BAD;");
        StiltWays x = row(0, 0, 0);
        Due.outside("sheet", 0, 3, BAD, x::drop);
        Due.is("it stays", x.drop(0), 24);
    }

    private static void dropNull() {
        Told.of(32, "NULL.");
        StiltWays x = row(0, 0, 0);
        Due.is("nothing at first", x.drop(3), NULL);
        x.drop(0);
        Due.is("nothing then", x.drop(0), NULL);
        Due.is("nothing then", x.drop(0), NULL);
    }

    private static void item() {
        Told.of(33, "Item i of a SHEET, taken as a row of a LANE, becomes v, its lowest bits: 1.");
        for (int lane = 0; lane < 3; lane++) {
            StiltWays x = row(0, lane, -10);
            int bits = 8 << lane;
            Due.is("the first", x.item(0, lane, 0, 20), 1);
            Due.is("the last", x.item(0, lane, 23, -20), 1);
            Due.is("higher bits count for nothing", x.item(0, lane, 1, bits == 32 ? 6 : 6 | 3 << bits), 1);
            Due.is("higher bits count for nothing", x.item(0, lane, 2, bits == 32 ? -6 : -6 & (1 << bits) - 1), 1);
            holds(x, 0, lane, 20, 6, -6, -7, -6, -5, -4, -3, -2, -1, 0, 1, 2, 3, 4, 5, 6, 7, 8, 9, 10, 11, 12, -20);
        }
    }

    private static void itemBad() {
        Told.of(33, "BAD;");
        StiltWays x = row(0, 0, 0);
        Due.outside("sheet", 0, 3, BAD, v -> x.item(v, 0, 0, 9));
        Due.outside("lane", 0, 2, BAD, v -> x.item(0, v, 0, 9));
        Due.outside("lane of nothing", 0, 2, BAD, v -> x.item(1, v, 0, 9));
        Due.outside("lane, ahead of index", 0, 2, BAD, v -> x.item(0, v, 24, 9));
    }

    private static void itemNull() {
        Told.of(33, "NULL;");
        StiltWays x = row(0, 0, 0);
        for (int lane = 0; lane < 3; lane++) {
            Due.is("nothing", x.item(1, lane, 0, 9), NULL);
            Due.is("ahead of index", x.item(1, lane, 24, 9), NULL);
        }
        x.drop(0);
        Due.is("nothing then", x.item(0, 1, 0, 9), NULL);
    }

    private static void itemCast() {
        Told.of(33, "CAST;");
        for (int lane = 0; lane < 3; lane++) {
            StiltWays x = row(0, lane, 0);
            for (int as = 0; as < 3; as++) {
                Due.is("lane " + lane + " as " + as, x.item(0, as, 0, 9), as == lane ? 1 : CAST);
                Due.is("ahead of index", x.item(0, as, 24, 9), as == lane ? INDEX : CAST);
                Due.is("ahead of index", x.item(0, as, -1, 9), as == lane ? INDEX : CAST);
            }
        }
    }

    private static void itemIndex() {
        Told.of(33, "INDEX.");
        StiltWays x = row(0, 0, -3);
        Due.outside("item", 0, 23, INDEX, v -> x.item(0, 0, v, 9));
        x.sheet(0, 0, 1);
        Due.outside("item of one", 0, 0, INDEX, v -> x.item(0, 0, v, 9));
        Due.is("the one", x.item(0, 0, 0, 9), 1);
    }

    private static void copy() {
        Told.of(34, "n items of a SHEET from i on come to another one (or the same) from j on,");
        for (int lane = 0; lane < 3; lane++) {
            StiltWays x = row(0, lane, -10);
            x.sheet(3, lane, 24);
            Due.is("three", x.copy(0, 2, 3, 20, 3), 3);
            holds(x, 3, lane, 0, 0, 0, 0, 0, 0, 0, 0, 0, 0, 0, 0, 0, 0, 0, 0, 0, 0, 0, 0, -8, -7, -6, 0);
            Due.is("none", x.copy(0, 0, 3, 0, 0), 0);
            Due.is("the last", x.copy(0, 23, 3, 23, 1), 1);
            Due.is("the same", x.copy(3, 20, 3, 0, 1), 1);
            holds(x, 3, lane, -8, 0, 0, 0, 0, 0, 0, 0, 0, 0, 0, 0, 0, 0, 0, 0, 0, 0, 0, 0, -8, -7, -6, 13);
            Due.is("all", x.copy(0, 0, 3, 0, 24), 24);
            x.item(0, lane, 0, 19);
            holds(x, 3, lane, -10, -9, -8, -7);
        }
    }

    private static void copyAsIfTakenAhead() {
        Told.of(34, "as if all were taken ahead: n.");
        for (int apart = -3; apart <= 3; apart++) {
            StiltWays x = row(2, 1, -10);
            Due.is("by " + apart, x.copy(2, 4, 2, 4 + apart, 16), 16);
            int[] due = new int[24];
            for (int i = 0; i < 24; i++) {
                due[i] = i - 10;
            }
            for (int i = 0; i < 16; i++) {
                due[4 + apart + i] = i - 6;
            }
            holds(x, 2, 1, due);
        }
    }

    private static void copyBad() {
        Told.of(34, "BAD;");
        StiltWays x = row(0, 0, 0);
        Due.outside("from", 0, 3, BAD, v -> x.copy(v, 0, 0, 0, 1));
        Due.outside("to", 0, 3, BAD, v -> x.copy(0, 0, v, 0, 1));
        Due.outside("from, ahead of null", 0, 3, BAD, v -> x.copy(v, 0, 1, 0, 1));
        Due.outside("to, ahead of null", 0, 3, BAD, v -> x.copy(1, 0, v, 0, 1));
        Due.outside("to, ahead of index", 0, 3, BAD, v -> x.copy(0, -1, v, 0, -1));
    }

    private static void copyNull() {
        Told.of(34, "NULL (either);");
        StiltWays x = row(0, 0, 0);
        Due.is("from", x.copy(1, 0, 0, 0, 1), NULL);
        Due.is("to", x.copy(0, 0, 1, 0, 1), NULL);
        Due.is("both", x.copy(1, 0, 2, 0, 1), NULL);
        Due.is("no item", x.copy(1, 0, 0, 0, 0), NULL);
        Due.is("ahead of index", x.copy(1, -1, 0, 25, -1), NULL);
        Due.is("ahead of index", x.copy(0, -1, 1, 25, -1), NULL);
    }

    private static void copyCast() {
        Told.of(34, "CAST: of unlike LANES;");
        for (int from = 0; from < 3; from++) {
            for (int to = 0; to < 3; to++) {
                StiltWays x = row(0, from, 0);
                fill(x, 1, to, 0);
                Due.is("lane " + from + " to " + to, x.copy(0, 0, 1, 0, 1), from == to ? 1 : CAST);
                Due.is("no item", x.copy(0, 0, 1, 0, 0), from == to ? 0 : CAST);
                Due.is("ahead of index", x.copy(0, 0, 1, 0, -1), from == to ? INDEX : CAST);
                Due.is("ahead of index", x.copy(0, 25, 1, 0, 0), from == to ? INDEX : CAST);
            }
        }
    }

    private static void copyIndex() {
        Told.of(34, "INDEX (n below 0, too; with n 0, too, if i or j is above how many there are).");
        StiltWays x = row(0, 0, 0);
        x.sheet(1, 0, 5);
        Due.is("n below 0", x.copy(0, 0, 1, 0, -1), INDEX);
        Due.is("n below 0", x.copy(0, 5, 1, 5, -1), INDEX);
        Due.is("n far below 0", x.copy(0, 0, 1, 0, Integer.MIN_VALUE), INDEX);
        for (int n = 0; n <= 5; n++) {
            int taken = n;
            Due.outside("i", 0, 24 - n, INDEX, v -> x.copy(0, v, 1, 0, taken));
            Due.outside("j", 0, 5 - n, INDEX, v -> x.copy(0, 0, 1, v, taken));
            Due.is("at both ends", x.copy(0, 24 - n, 1, 5 - n, n), n);
            Due.is("at both ends, back", x.copy(1, 5 - n, 0, 24 - n, n), n);
        }
        Due.outside("n", 0, 5, INDEX, v -> x.copy(0, 0, 1, 0, v));
        Due.outside("n, of the row itself", 0, 23, INDEX, v -> x.copy(0, 1, 0, 0, v));
        x.sheet(2, 0, 0);
        Due.is("none of none", x.copy(2, 0, 2, 0, 0), 0);
        Due.is("one of none", x.copy(2, 0, 1, 0, 1), INDEX);
        Due.is("one to none", x.copy(1, 0, 2, 0, 1), INDEX);
    }
}
