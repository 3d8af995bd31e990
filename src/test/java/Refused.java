import java.util.Arrays;
import java.util.function.ToIntFunction;

/** Tells whether a call changes anything that can be seen, by looking at one object with and one without it. */
final class Refused {
    interface Calls {
        void on(StiltWays x);
    }

    private interface Look {
        /** Writes what is seen into the row; the object is of no use any more then. */
        int at(StiltWays x, int[] seen);
    }

    private static final Look[] LOOKS = {Refused::atLagoon, Refused::atPathsBack, Refused::atNeeds, Refused::atSheets,
        Refused::atTape, Refused::atImage};

    private Refused() {
    }

    /** The call, on an object made by these calls, must answer so and leave all as it was. */
    static void changesNothing(String told, Calls made, ToIntFunction<StiltWays> call, int due) {
        for (int look = 0; look < LOOKS.length; look++) {
            int[] before = seen(look, made, x -> { });
            int[] behind = seen(look, made, x -> Due.is(told, call.applyAsInt(x), due));
            Due.is(told + ": how many are seen", behind.length, before.length);
            for (int i = 0; i < Math.min(before.length, behind.length); i++) {
                Due.is(told + " changes nothing, look " + look + " at " + i, behind[i], before[i]);
            }
        }
    }

    /** What the call changes must be seen by one of the looks, or they would prove nothing of a refused one. */
    static void isSeen(String told, Calls made, Calls call) {
        boolean same = true;
        for (int look = 0; look < LOOKS.length; look++) {
            same &= Arrays.equals(seen(look, made, x -> { }), seen(look, made, call));
        }
        Due.is(told + " is seen", same ? 0 : 1, 1);
    }

    private static int[] seen(int look, Calls made, Calls call) {
        StiltWays x = new StiltWays();
        made.on(x);
        call.on(x);
        int[] all = new int[512];
        return Arrays.copyOf(all, LOOKS[look].at(x, all));
    }

    private static int atLagoon(StiltWays x, int[] seen) {
        int n = 0;
        for (int what = 0; what < 5; what++) {
            seen[n++] = x.count(what);
        }
        for (int what = 0; what < 2; what++) {
            seen[n++] = x.set(what, 0);
        }
        for (int hour = 0; hour < 24; hour++) {
            seen[n++] = x.tide(hour, 0);
        }
        for (int place = 0; place < 12; place++) {
            for (int what = 0; what < 3; what++) {
                seen[n++] = x.make(place, what, 0);
            }
            for (int other = 0; other < place; other++) {
                seen[n++] = x.path(place, other, 0);
            }
        }
        for (int person = 0; person < 8; person++) {
            for (int what = 0; what < 4; what++) {
                seen[n++] = x.of(person, what);
            }
        }
        return n;
    }

    private static int atPathsBack(StiltWays x, int[] seen) {
        int n = 0;
        for (int place = 0; place < 12; place++) {
            for (int other = 0; other < place; other++) {
                seen[n++] = x.path(other, place, 0);
            }
        }
        return n;
    }

    /** Of people of lengths 40 to 59: by where, when and in which water their needs are no longer met. */
    private static int atNeeds(StiltWays x, int[] seen) {
        int n = 0;
        x.set(0, 40);
        x.set(1, 60);
        for (int hour = 0; hour < 24; hour++) {
            x.tide(hour, 0);
        }
        for (int place = 0; place < 12; place++) {
            x.make(place, 0, 0);
        }
        for (int place = 0; place < 12; place++) {
            x.make(place, 0, 20);
            seen[n++] = x.met();
            x.make(place, 0, 0);
        }
        for (int hour = 0; hour < 24; hour++) {
            x.tide(hour, 20);
            seen[n++] = x.met();
            x.tide(hour, 0);
        }
        for (int place = 0; place < 12; place++) {
            x.make(place, 0, 20);
        }
        for (int flood = 20; flood <= 40; flood++) {
            x.set(0, flood);
            seen[n++] = x.met();
        }
        return n;
    }

    private static int atSheets(StiltWays x, int[] seen) {
        int n = 0;
        for (int sheet = 0; sheet < 4; sheet++) {
            n = atSheet(x, sheet, seen, n);
        }
        for (int sheet = 0; sheet < 4; sheet++) {
            seen[n++] = x.copy(1, 0, sheet, 0, 5);
            n = atSheet(x, sheet, seen, n);
        }
        for (int sheet = 0; sheet < 4; sheet++) {
            seen[n++] = x.drop(sheet);
        }
        return n;
    }

    private static int atSheet(StiltWays x, int sheet, int[] seen, int from) {
        int n = from;
        for (int lane = 0; lane < 3; lane++) {
            seen[n] = x.tides(sheet, lane);
            if (seen[n++] == 1) {
                for (int hour = 0; hour < 24; hour++) {
                    seen[n++] = x.tide(hour, 0);
                }
            }
        }
        return n;
    }

    private static int atTape(StiltWays x, int[] seen) {
        int n = 0;
        seen[n++] = x.type(' ', 1);
        seen[n++] = x.paths();
        seen[n++] = x.count(1);
        for (int a = 0; a < 4; a++) {
            for (int b = 0; b < a; b++) {
                seen[n++] = x.path(a, b, 0);
            }
        }
        seen[n++] = x.lagoon();
        return n;
    }

    private static int atImage(StiltWays x, int[] seen) {
        seen[0] = x.restore();
        int[] kept = new int[512];
        int n = atLagoon(x, kept);
        System.arraycopy(kept, 0, seen, 1, n);
        return n + 1;
    }

    /** Something of all that there is, and an image of something else. */
    static void rich(StiltWays x) {
        withoutTape(x);
        Due.text(x, "ab3,dc4");
    }

    static void withoutTape(StiltWays x) {
        Due.lagoon(x, "1;2;3;-4");
        x.person(1, 31, 2);
        x.tide(7, 7);
        x.image();
        Due.lagoon(x, "12p5;3;-7p11;30;60p20");
        Due.paths(x, "ab5,bc60,ca17");
        for (int place = 0; place < 5; place++) {
            x.make(place, 2, place - 2);
        }
        for (int hour = 0; hour < 24; hour++) {
            x.tide(hour, hour * 7 % 5 - 2);
        }
        x.set(0, 6);
        x.set(1, 33);
        x.person(0, 45, 1);
        x.person(1, 50, 0);
        x.person(2, 57, 1);
        x.person(3, 40, 2);
        x.years(3);
        x.need(0, 1, 5);
        x.need(3, 2, 0);
        x.need(1, 4, 23);
        sheets(x);
    }

    /** 0 and 1 of shorts, 2 of bytes (one of them no tide), 3 missing. */
    private static void sheets(StiltWays x) {
        x.sheet(0, 1, 24);
        x.sheet(1, 1, 5);
        x.sheet(2, 0, 24);
        for (int i = 0; i < 24; i++) {
            x.item(0, 1, i, i - 11);
        }
        for (int i = 0; i < 5; i++) {
            x.item(1, 1, i, 15 - i);
        }
        x.item(2, 0, 23, 21);
    }

    /** As many of all as there may be, and no image. */
    static void full(StiltWays x) {
        for (int place = 0; place < 12; place++) {
            x.place(place);
        }
        x.make(1, 1, 3);
        x.make(4, 1, 5);
        x.make(11, 1, 20);
        x.path(0, 1, 9);
        for (int person = 0; person < 8; person++) {
            x.person(person % 3, 42 + 2 * person, 11 - person);
        }
        for (int need = 0; need < 10; need++) {
            x.need(need % 8, need, need + 14);
        }
        for (int i = 0; i < 33; i++) {
            x.years(30);
        }
        x.years(9);
        for (int place = 0; place < 12; place++) {
            x.make(place, 2, place % 2 == 0 ? 5 : -5);
        }
        x.sheet(0, 2, 0);
        for (int i = 0; i < 9; i++) {
            x.type(0x2020202020202020L, 8);
        }
        Due.text(x, " ab3,cb4");
    }
}
