/** Promises 30 to 34: sheets that may be missing. */
final class SheetsTest {
    public static void main(String[] args) {
        tides();
        sheet();
        drop();
        item();
        copy();
        copyEdges();
        lanes();
        Due.end();
    }

    private static void tides() {
        StiltWays x = new StiltWays();
        x.place(0);
        Due.is("30 bad sheet", x.tides(-1, 0), -1);
        Due.is("30 bad sheet", x.tides(4, 0), -1);
        Due.is("30 bad lane", x.tides(0, -1), -1);
        Due.is("30 bad lane", x.tides(0, 3), -1);
        Due.is("30 bad ahead of null", x.tides(3, 3), -1);
        Due.is("30 null", x.tides(0, 0), -11);
        x.sheet(0, 2, 23);
        Due.is("30 cast", x.tides(0, 1), -12);
        Due.is("30 cast ahead of index", x.tides(0, 0), -12);
        Due.is("30 fewer", x.tides(0, 2), -13);
        x.item(0, 2, 0, 99);
        Due.is("30 index ahead of not", x.tides(0, 2), -13);
        x.sheet(0, 2, 24);
        for (int hour = 0; hour < 24; hour++) {
            x.item(0, 2, hour, hour % 2 == 0 ? 20 : -20);
        }
        Due.is("30 it becomes", x.tides(0, 2), 1);
        for (int hour = 0; hour < 24; hour++) {
            Due.is("30 tide", x.tide(hour, hour % 20), hour % 2 == 0 ? 20 : -20);
        }
        x.item(0, 2, 23, 21);
        Due.is("30 not", x.tides(0, 2), -2);
        x.item(0, 2, 23, -21);
        Due.is("30 not", x.tides(0, 2), -2);
        Due.is("30 cast ahead of not", x.tides(0, 0), -12);
        for (int hour = 0; hour < 24; hour++) {
            Due.is("30 refused changes nothing", x.tide(hour, 0), hour % 20);
        }
        x.item(0, 2, 23, 5);
        x.item(0, 2, 0, 21);
        Due.is("30 not the first", x.tides(0, 2), -2);
        x.item(0, 2, 0, 20);
        x.tides(0, 2);
        x.item(0, 2, 23, 6);
        Due.is("30 taken once", x.tide(23, 0), 5);
        x.tide(0, 1);
        x.tides(0, 2);
        Due.is("30 the sheet stays", x.tide(0, 0), 20);
    }

    private static void sheet() {
        StiltWays x = new StiltWays();
        Due.is("31 bad sheet", x.sheet(4, 0, 1), -1);
        Due.is("31 bad sheet", x.sheet(-1, 0, 1), -1);
        Due.is("31 bad lane", x.sheet(0, 3, 1), -1);
        Due.is("31 bad lane", x.sheet(0, -1, 1), -1);
        Due.is("31 too many", x.sheet(0, 0, 25), -1);
        Due.is("31 size", x.sheet(0, 0, -1), -14);
        Due.is("31 size", x.sheet(0, 0, Integer.MIN_VALUE), -14);
        Due.is("31 bad ahead of size", x.sheet(0, 3, -1), -1);
        Due.is("31 refused changes nothing", x.drop(0), -11);
        Due.is("31 none", x.sheet(0, 0, 0), 0);
        Due.is("31 none is a row", x.drop(0), 0);
        Due.is("31 all", x.sheet(3, 2, 24), 24);
        x.item(3, 2, 0, 7);
        Due.is("31 refused stays", x.sheet(3, 0, 25), -1);
        Due.is("31 refused stays", x.sheet(3, 0, -1), -14);
        x.tides(3, 2);
        Due.is("31 the old items", x.tide(0, 0), 7);
        Due.is("31 new", x.sheet(3, 2, 24), 24);
        x.tides(3, 2);
        Due.is("31 new items are 0", x.tide(0, 0), 0);
        Due.is("31 of another lane", x.sheet(3, 0, 2), 2);
        Due.is("31 the lane", x.item(3, 2, 0, 1), -12);
        Due.is("31 the lane", x.item(3, 0, 0, 1), 1);
        Due.is("31 how many", x.drop(3), 2);
    }

    private static void drop() {
        StiltWays x = new StiltWays();
        Due.is("32 bad", x.drop(-1), -1);
        Due.is("32 bad", x.drop(4), -1);
        Due.is("32 null", x.drop(3), -11);
        x.sheet(3, 1, 17);
        Due.is("32 it had", x.drop(3), 17);
        Due.is("32 null then", x.drop(3), -11);
        Due.is("32 null then", x.item(3, 1, 0, 0), -11);
    }

    private static void item() {
        StiltWays x = new StiltWays();
        Due.is("33 bad sheet", x.item(4, 0, 0, 0), -1);
        Due.is("33 bad sheet", x.item(-1, 0, 0, 0), -1);
        Due.is("33 bad lane", x.item(0, 3, 0, 0), -1);
        Due.is("33 bad lane", x.item(0, -1, 0, 0), -1);
        Due.is("33 null", x.item(0, 0, 0, 0), -11);
        x.sheet(0, 1, 2);
        Due.is("33 cast", x.item(0, 0, 0, 0), -12);
        Due.is("33 cast ahead of index", x.item(0, 2, 9, 0), -12);
        Due.is("33 index", x.item(0, 1, 2, 0), -13);
        Due.is("33 index", x.item(0, 1, -1, 0), -13);
        Due.is("33 index", x.item(0, 1, Integer.MAX_VALUE, 0), -13);
        Due.is("33 index", x.item(0, 1, Integer.MIN_VALUE, 0), -13);
        Due.is("33 first", x.item(0, 1, 0, 0), 1);
        Due.is("33 last", x.item(0, 1, 1, 0), 1);
        x.sheet(0, 1, 0);
        Due.is("33 none", x.item(0, 1, 0, 0), -13);
    }

    /** What an item has become is seen by THE TIDE: -20 .. 20, or NOT. */
    private static void lanes() {
        int[] vs = {20, -20, 21, 128 + 128, 256 + 20, -256 - 20, 127, 128, 255, 65536 + 7, 65535, 32768, -65536 - 7,
            65536 + 256 + 3, 1 << 24 | 5, Integer.MIN_VALUE, Integer.MAX_VALUE, 236, 65516};
        for (int lane = 0; lane < 3; lane++) {
            for (int v : vs) {
                StiltWays x = new StiltWays();
                x.sheet(1, lane, 24);
                Due.is("33 becomes", x.item(1, lane, 9, v), 1);
                int kept = lane == 0 ? (byte) v : lane == 1 ? (short) v : v;
                boolean told = kept >= -20 && kept <= 20;
                Due.is("33 " + v + " of lane " + lane, x.tides(1, lane), told ? 1 : -2);
                Due.is("33 " + v + " of lane " + lane, x.tide(9, 0), told ? kept : 0);
            }
        }
    }

    private static void copy() {
        StiltWays x = new StiltWays();
        Due.is("34 bad", x.copy(4, 0, 0, 0, 0), -1);
        Due.is("34 bad", x.copy(-1, 0, 0, 0, 0), -1);
        Due.is("34 bad", x.copy(0, 0, 4, 0, 0), -1);
        Due.is("34 bad", x.copy(0, 0, -1, 0, 0), -1);
        Due.is("34 null", x.copy(0, 0, 1, 0, 0), -11);
        x.sheet(0, 0, 5);
        Due.is("34 null", x.copy(0, 0, 1, 0, 0), -11);
        Due.is("34 null", x.copy(1, 0, 0, 0, 0), -11);
        Due.is("34 null ahead of index", x.copy(1, -1, 0, 0, -1), -11);
        x.sheet(1, 1, 5);
        Due.is("34 cast", x.copy(0, 0, 1, 0, 1), -12);
        Due.is("34 cast ahead of index", x.copy(0, 9, 1, 0, -1), -12);
        x.sheet(1, 0, 3);
        Due.is("34 n below 0", x.copy(0, 0, 1, 0, -1), -13);
        Due.is("34 n below 0", x.copy(0, 0, 1, 0, Integer.MIN_VALUE), -13);
        Due.is("34 i below 0", x.copy(0, -1, 1, 0, 1), -13);
        Due.is("34 j below 0", x.copy(0, 0, 1, -1, 1), -13);
        Due.is("34 beyond from", x.copy(0, 4, 1, 0, 2), -13);
        Due.is("34 beyond to", x.copy(0, 0, 1, 1, 3), -13);
        Due.is("34 huge n", x.copy(0, 1, 1, 1, Integer.MAX_VALUE), -13);
        Due.is("34 huge i", x.copy(0, Integer.MAX_VALUE, 1, 0, 1), -13);
        Due.is("34 huge j", x.copy(0, 0, 1, Integer.MAX_VALUE, 1), -13);
        Due.is("34 none, i", x.copy(0, 6, 1, 0, 0), -13);
        Due.is("34 none, j", x.copy(0, 0, 1, 4, 0), -13);
        Due.is("34 none, i", x.copy(0, -1, 1, 0, 0), -13);
        Due.is("34 none, j", x.copy(0, 0, 1, -1, 0), -13);
        Due.is("34 none at both ends", x.copy(0, 5, 1, 3, 0), 0);
        Due.is("34 all", x.copy(0, 2, 1, 0, 3), 3);
    }

    private static void copyEdges() {
        for (int i = 0; i < 4; i++) {
            for (int j = 0; j < 4; j++) {
                StiltWays x = new StiltWays();
                int[] due = new int[24];
                x.sheet(2, 0, 24);
                x.sheet(1, 0, 24);
                for (int k = 0; k < 20; k++) {
                    due[k] = k + 1;
                    x.item(2, 0, k, k + 1);
                }
                System.arraycopy(due.clone(), i, due, j, 9);
                Due.is("34 as if taken ahead", x.copy(2, i, 2, j, 9), 9);
                Due.is("34 to another", x.copy(2, 0, 1, 0, 24), 24);
                x.item(2, 0, 0, 0);
                x.tides(1, 0);
                for (int hour = 0; hour < 24; hour++) {
                    Due.is("34 from " + i + " to " + j + " at " + hour, x.tide(hour, 0), due[hour]);
                }
            }
        }
    }
}
