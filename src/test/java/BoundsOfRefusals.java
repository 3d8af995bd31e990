import java.util.function.ToIntFunction;

/** The Terms of refusals: of several the first that a call names, and that none changes anything. */
final class BoundsOfRefusals {
    private static final int BAD = StiltWays.BAD, NOT = StiltWays.NOT, FULL = StiltWays.FULL, NONE = StiltWays.NONE,
        NULL = StiltWays.NULL, CAST = StiltWays.CAST, INDEX = StiltWays.INDEX, SIZE = StiltWays.SIZE, LESS = 100000;

    private BoundsOfRefusals() {
    }

    static void run() {
        Told.of(0, "What is refused changes nothing, but as told.");
        ofAnEmptyLagoon();
        ofSheetsMissing();
        ofPlaces();
        ofPeople();
        ofWays();
        ofVillages();
        ofSheets();
        ofCopies();
        whatIsFull();
        asTold();
        whatIsNotRefusedIsSeen();
        Told.of(0, "Answers below 0, of several the first that a call names:");
        badAheadOfFull();
        badAheadOfNone();
        notAheadOfNone();
        badAheadOfAll();
        indexAheadOfNot();
        Told.of(0, "(NULL, CAST, INDEX, SIZE in this order;");
        nullAheadOfCast();
        castAheadOfIndex();
        Told.of(0, "INDEX also where no item is taken, if i, j is below 0, or above how many there are).");
        indexOfNoItem();
    }

    private static void empty(String told, ToIntFunction<StiltWays> call, int due) {
        Refused.changesNothing(told + " of an empty one", x -> { }, call, due);
    }

    private static void rich(String told, ToIntFunction<StiltWays> call, int due) {
        Refused.changesNothing(told, Refused::rich, call, due);
    }

    private static void full(String told, ToIntFunction<StiltWays> call, int due) {
        Refused.changesNothing(told + " of a full one", Refused::full, call, due);
    }

    private static void ofAnEmptyLagoon() {
        empty("make", x -> x.make(0, 0, 0), BAD - LESS);
        empty("path", x -> x.path(0, 1, 1), BAD);
        empty("person", x -> x.person(0, 0, 0), BAD);
        empty("of", x -> x.of(0, 0), BAD);
        empty("lagoon", x -> x.lagoon(), -20);
        empty("paths", x -> x.paths(), -20);
        empty("water", x -> x.water(0, 0), BAD);
        empty("stands", x -> x.stands(0, 0, 0), BAD);
        empty("hours", x -> x.hours(0, 0), BAD);
        empty("way", x -> x.way(0, 0, 0, 0), BAD);
        empty("race", x -> x.race(1, 0, 0, 0), BAD);
        empty("need", x -> x.need(0, 0, 0), BAD);
        empty("lengths", x -> x.lengths(-1), NOT);
        empty("lengths", x -> x.lengths(0), NOT);
        empty("meeting", x -> x.meeting(0), NONE);
        empty("flood", x -> x.flood(0, 0), BAD);
        empty("carried", x -> x.carried(1, 0, 0), BAD);
        empty("restore", x -> x.restore(), NONE);
    }

    private static void ofSheetsMissing() {
        empty("tides", x -> x.tides(0, 0), NULL);
        empty("drop", x -> x.drop(3), NULL);
        empty("item", x -> x.item(0, 0, 0, 0), NULL);
        empty("copy", x -> x.copy(0, 0, 1, 0, 0), NULL);
        empty("sheet", x -> x.sheet(0, 0, -1), SIZE);
    }

    private static void ofPlaces() {
        rich("place", x -> x.place(61), BAD);
        rich("place", x -> x.place(-21), BAD);
        rich("make", x -> x.make(5, 0, 0), BAD - LESS);
        rich("make", x -> x.make(-1, 0, 0), BAD - LESS);
        rich("make", x -> x.make(0, 3, 0), BAD - LESS);
        rich("make", x -> x.make(0, -1, 0), BAD - LESS);
        rich("make", x -> x.make(0, 0, 61), BAD - LESS);
        rich("make", x -> x.make(0, 0, -21), BAD - LESS);
        rich("make", x -> x.make(0, 1, 21), BAD - LESS);
        rich("make", x -> x.make(0, 1, -1), BAD - LESS);
        rich("make", x -> x.make(0, 2, 6), BAD - LESS);
        rich("make", x -> x.make(0, 2, -6), BAD - LESS);
        rich("make", x -> x.make(1, 1, 1), FULL - LESS);
        rich("path", x -> x.path(0, 0, 1), BAD);
        rich("path", x -> x.path(0, 5, 1), BAD);
        rich("path", x -> x.path(5, 0, 1), BAD);
        rich("path", x -> x.path(0, -1, 1), BAD);
        rich("path", x -> x.path(-1, 0, 1), BAD);
        rich("path", x -> x.path(0, 1, 61), BAD);
        rich("path", x -> x.path(0, 1, -1), BAD);
        rich("tide", x -> x.tide(24, 0), BAD - LESS);
        rich("tide", x -> x.tide(-1, 0), BAD - LESS);
        rich("tide", x -> x.tide(0, 21), BAD - LESS);
        rich("tide", x -> x.tide(0, -21), BAD - LESS);
        rich("set", x -> x.set(0, 41), BAD);
        rich("set", x -> x.set(0, -1), BAD);
        rich("set", x -> x.set(1, 61), BAD);
        rich("set", x -> x.set(1, -1), BAD);
        rich("set", x -> x.set(2, 0), BAD);
        rich("set", x -> x.set(-1, 0), BAD);
        rich("water", x -> x.water(5, 0), BAD);
        rich("water", x -> x.water(0, 24), BAD);
        rich("years", x -> x.years(0), BAD);
        rich("years", x -> x.years(31), BAD);
        rich("years", x -> x.years(-1), BAD);
    }

    private static void ofPeople() {
        rich("person", x -> x.person(4, 0, 0), BAD);
        rich("person", x -> x.person(-1, 0, 0), BAD);
        rich("person", x -> x.person(0, 61, 0), BAD);
        rich("person", x -> x.person(0, -1, 0), BAD);
        rich("person", x -> x.person(0, 0, 5), BAD);
        rich("person", x -> x.person(0, 0, -1), BAD);
        rich("of", x -> x.of(4, 0), BAD);
        rich("of", x -> x.of(0, 4), BAD);
        rich("type", x -> x.type('1', 0), BAD);
        rich("type", x -> x.type(0x3131313131313131L, 9), BAD);
        rich("type", x -> x.type('1' << 8 | 31, 2), BAD);
        rich("type", x -> x.type(127 << 8 | '1', 2), BAD);
        rich("count", x -> x.count(5), BAD);
        rich("stands", x -> x.stands(4, 0, 0), BAD);
        rich("stands", x -> x.stands(0, 5, 0), BAD);
        rich("stands", x -> x.stands(0, 0, 24), BAD);
        rich("hours", x -> x.hours(4, 0), BAD);
        rich("hours", x -> x.hours(0, 5), BAD);
    }

    private static void ofWays() {
        rich("way", x -> x.way(4, 0, 0, 0), BAD);
        rich("way", x -> x.way(0, 5, 0, 0), BAD);
        rich("way", x -> x.way(0, 0, 1440, 0), BAD);
        rich("way", x -> x.way(0, 0, 0, 2), BAD);
        rich("way", x -> x.way(0, 4, 0, 0), NONE);
        rich("way", x -> x.way(0, 4, 0, 1), NONE);
        rich("race", x -> x.race(0, 0, 0, 0), BAD);
        rich("race", x -> x.race(16, 0, 0, 0), BAD);
        rich("race", x -> x.race(1, 5, 0, 0), BAD);
        rich("race", x -> x.race(1, 0, -1, 0), BAD);
        rich("race", x -> x.race(1, 0, 0, 2), BAD);
        rich("race", x -> x.race(15, 4, 0, 0), NONE);
    }

    private static void ofVillages() {
        rich("need", x -> x.need(4, 0, 0), BAD);
        rich("need", x -> x.need(0, 5, 0), BAD);
        rich("need", x -> x.need(0, 0, 24), BAD);
        rich("lengths", x -> x.lengths(-2), BAD);
        rich("lengths", x -> x.lengths(9), NONE);
        rich("meeting", x -> x.meeting(3), BAD);
        rich("pairs", x -> x.pairs(61), BAD);
        rich("pairs", x -> x.pairs(-1), BAD);
        rich("flood", x -> x.flood(41, -1), BAD);
        rich("flood", x -> x.flood(-1, -1), BAD);
        rich("flood", x -> x.flood(0, 4), BAD);
        rich("flood", x -> x.flood(0, -3), BAD);
        rich("carried", x -> x.carried(0, 0, 0), BAD);
        rich("carried", x -> x.carried(16, 0, 0), BAD);
        rich("carried", x -> x.carried(1, 5, 0), BAD);
        rich("carried", x -> x.carried(1, 0, 24), BAD);
        rich("wrong", x -> x.wrong(0, 0), BAD);
        rich("wrong", x -> x.wrong(31, 0), BAD);
        rich("wrong", x -> x.wrong(1, 24), BAD);
        full("meeting", x -> x.meeting(0), NONE);
        full("restore", x -> x.restore(), NONE);
    }

    private static void ofSheets() {
        rich("tides", x -> x.tides(4, 0), BAD);
        rich("tides", x -> x.tides(0, 3), BAD);
        rich("tides", x -> x.tides(3, 0), NULL);
        rich("tides", x -> x.tides(0, 2), CAST);
        rich("tides", x -> x.tides(1, 1), INDEX);
        rich("tides", x -> x.tides(2, 0), NOT);
        rich("sheet", x -> x.sheet(4, 0, 1), BAD);
        rich("sheet", x -> x.sheet(0, 3, 1), BAD);
        rich("sheet", x -> x.sheet(0, 0, 25), BAD);
        rich("sheet", x -> x.sheet(0, 0, -1), SIZE);
        rich("sheet", x -> x.sheet(3, 0, -1), SIZE);
        rich("drop", x -> x.drop(4), BAD);
        rich("drop", x -> x.drop(3), NULL);
        rich("item", x -> x.item(4, 0, 0, 5), BAD);
        rich("item", x -> x.item(0, 3, 0, 5), BAD);
        rich("item", x -> x.item(3, 0, 0, 5), NULL);
        rich("item", x -> x.item(0, 0, 0, 5), CAST);
        rich("item", x -> x.item(0, 1, 24, 5), INDEX);
        rich("item", x -> x.item(1, 1, 5, 5), INDEX);
        rich("item", x -> x.item(1, 1, -1, 5), INDEX);
    }

    private static void ofCopies() {
        rich("copy", x -> x.copy(4, 0, 0, 0, 1), BAD);
        rich("copy", x -> x.copy(0, 0, 4, 0, 1), BAD);
        rich("copy", x -> x.copy(3, 0, 0, 0, 1), NULL);
        rich("copy", x -> x.copy(0, 0, 3, 0, 1), NULL);
        rich("copy", x -> x.copy(0, 0, 2, 0, 1), CAST);
        rich("copy", x -> x.copy(0, 0, 1, 0, -1), INDEX);
        rich("copy", x -> x.copy(0, -1, 1, 0, 1), INDEX);
        rich("copy", x -> x.copy(0, 0, 1, -1, 1), INDEX);
        rich("copy", x -> x.copy(0, 20, 1, 0, 5), INDEX);
        rich("copy", x -> x.copy(0, 0, 1, 1, 5), INDEX);
        rich("copy", x -> x.copy(1, 0, 0, 0, 6), INDEX);
        rich("copy", x -> x.copy(0, 0, 0, 1, 24), INDEX);
    }

    private static void whatIsFull() {
        full("place", x -> x.place(0), FULL);
        full("make", x -> x.make(0, 1, 1), FULL - LESS);
        full("person", x -> x.person(0, 0, 0), FULL);
        full("type", x -> x.type('1', 1), FULL);
        full("type", x -> x.type(0x3131313131313131L, 8), FULL);
        full("years", x -> x.years(1), FULL);
        full("years", x -> x.years(30), FULL);
        full("need", x -> x.need(0, 0, 0), FULL);
    }

    /** A text that is refused is gone, but all else stays. */
    private static void asTold() {
        StiltWays x = new StiltWays();
        Refused.rich(x);
        Due.is("lagoon of paths", x.lagoon(), -20);
        Due.is("the tape is gone", x.lagoon(), -20);
        Due.is("the places stay", x.count(0), 5);
        Due.text(x, "ab1,af2");
        Due.is("paths to nowhere", x.paths(), -25);
        Due.is("the tape is gone", x.paths(), -20);
        Due.is("the first has not come", x.path(0, 1, 0), 5);
    }

    private static void seen(String told, Refused.Calls call) {
        Refused.isSeen(told, Refused::rich, call);
    }

    private static void whatIsNotRefusedIsSeen() {
        seen("place", x -> x.place(0));
        for (int i = 0; i < 5; i++) {
            int place = i;
            seen("make, depth", x -> x.make(place, 0, 59));
            seen("make, splices", x -> x.make(place / 2 * 2, 1, 1));
            seen("make, silt", x -> x.make(place, 2, -5));
            seen("path", x -> x.path(place, (place + 1) % 5, 59));
            seen("person", x -> x.person(place % 4, 1, place));
            seen("need", x -> x.need(place % 4, place, 23));
        }
        for (int i = 0; i < 24; i++) {
            int at = i;
            seen("tide", x -> x.tide(at, 9));
            seen("item", x -> x.item(0, 1, at, 20));
            seen("item", x -> x.item(1, 1, at % 5, 20));
            seen("sheet", x -> x.sheet(3, at % 3, at));
        }
        seen("flood", x -> x.set(0, 7));
        seen("reach", x -> x.set(1, 34));
        seen("type", x -> x.type('9', 1));
        seen("lagoon", x -> x.lagoon());
        seen("paths", x -> x.paths());
        seen("years", x -> x.years(1));
        seen("clear", x -> x.clear());
        seen("image", x -> x.image());
        seen("restore", x -> x.restore());
        seen("tides", x -> x.tides(0, 1));
        seen("sheet", x -> x.sheet(2, 0, 24));
        for (int i = 0; i < 3; i++) {
            int sheet = i;
            seen("drop", x -> x.drop(sheet));
        }
        seen("copy", x -> x.copy(1, 0, 0, 0, 1));
        seen("copy", x -> x.copy(0, 0, 1, 4, 1));
    }

    private static void badAheadOfFull() {
        full("place", x -> x.place(61), BAD);
        full("make, no such place", x -> x.make(12, 1, 1), BAD - LESS);
        full("make, too many", x -> x.make(0, 1, 21), BAD - LESS);
        full("person, kind", x -> x.person(4, 0, 0), BAD);
        full("person, length", x -> x.person(0, 61, 0), BAD);
        full("person, home", x -> x.person(0, 0, 12), BAD);
        full("type, n", x -> x.type('1', 9), BAD);
        full("type, a byte", x -> x.type(10, 1), BAD);
        full("years", x -> x.years(31), BAD);
        full("years", x -> x.years(0), BAD);
        full("need, person", x -> x.need(8, 0, 0), BAD);
        full("need, place", x -> x.need(0, 12, 0), BAD);
        full("need, hour", x -> x.need(0, 0, 24), BAD);
    }

    private static void badAheadOfNone() {
        rich("way, minute", x -> x.way(0, 4, 1440, 0), BAD);
        rich("way, what", x -> x.way(0, 4, 0, 2), BAD);
        rich("race, set", x -> x.race(0, 4, 0, 0), BAD);
        rich("race, what", x -> x.race(1, 4, 0, -1), BAD);
        empty("meeting", x -> x.meeting(3), BAD);
        empty("meeting", x -> x.meeting(-1), BAD);
        empty("lengths, ahead of not", x -> x.lengths(-2), BAD);
        rich("lengths", x -> x.lengths(-2), BAD);
    }

    private static void notAheadOfNone() {
        empty("lengths", x -> x.lengths(-1), NOT);
        empty("lengths", x -> x.lengths(7), NOT);
        rich("lengths", x -> x.lengths(7), NONE);
    }

    private static void badAheadOfAll() {
        rich("tides, lane, ahead of null", x -> x.tides(3, 3), BAD);
        rich("tides, lane, ahead of cast", x -> x.tides(0, -1), BAD);
        rich("drop, ahead of null", x -> x.drop(-1), BAD);
        rich("sheet, ahead of size", x -> x.sheet(4, 0, -1), BAD);
        rich("sheet, lane, ahead of size", x -> x.sheet(0, 3, -1), BAD);
        rich("item, lane, ahead of null", x -> x.item(3, 3, 0, 0), BAD);
        rich("item, lane, ahead of index", x -> x.item(0, 3, 99, 0), BAD);
        rich("copy, to, ahead of null", x -> x.copy(3, 0, 4, 0, 0), BAD);
        rich("copy, from, ahead of null", x -> x.copy(4, 0, 3, 0, 0), BAD);
        rich("copy, to, ahead of index", x -> x.copy(0, -1, 4, 0, -1), BAD);
        rich("copy, from, ahead of index", x -> x.copy(-1, -1, 0, 0, -1), BAD);
    }

    private static void indexAheadOfNot() {
        Refused.changesNothing("tides, fewer and not as told", x -> {
            x.sheet(0, 2, 23);
            x.item(0, 2, 0, 21);
        }, x -> x.tides(0, 2), INDEX);
        rich("tides, cast ahead of not", x -> x.tides(2, 1), CAST);
    }

    private static void nullAheadOfCast() {
        rich("copy, from, of any index", x -> x.copy(3, -1, 0, 99, -1), NULL);
        rich("copy, to, of any index", x -> x.copy(0, -1, 3, 99, -1), NULL);
        rich("copy, to, of bytes", x -> x.copy(2, 0, 3, 0, 0), NULL);
        rich("item, of any index", x -> x.item(3, 2, -1, 0), NULL);
        for (int lane = 0; lane < 3; lane++) {
            int any = lane;
            Refused.changesNothing("a row that was dropped", x -> {
                x.sheet(1, 1, 3);
                x.drop(1);
            }, x -> x.item(1, any, 0, 0), NULL);
        }
    }

    private static void castAheadOfIndex() {
        rich("copy, n", x -> x.copy(0, 0, 2, 0, -1), CAST);
        rich("copy, i", x -> x.copy(0, 25, 2, 0, 0), CAST);
        rich("copy, j", x -> x.copy(0, 0, 2, -1, 0), CAST);
        rich("item", x -> x.item(0, 0, 24, 0), CAST);
        rich("item", x -> x.item(1, 2, -1, 0), CAST);
        rich("tides, of fewer", x -> x.tides(1, 0), CAST);
    }

    private static void indexOfNoItem() {
        rich("i below 0", x -> x.copy(0, -1, 1, 0, 0), INDEX);
        rich("j below 0", x -> x.copy(0, 0, 1, -1, 0), INDEX);
        rich("i above", x -> x.copy(1, 6, 0, 0, 0), INDEX);
        rich("i above", x -> x.copy(0, 25, 1, 0, 0), INDEX);
        rich("j above", x -> x.copy(0, 0, 1, 6, 0), INDEX);
        rich("j above", x -> x.copy(0, 0, 1, Integer.MAX_VALUE, 0), INDEX);
        rich("both at their ends", x -> x.copy(0, 24, 1, 5, 0), 0);
        rich("both at their ends", x -> x.copy(1, 5, 0, 24, 0), 0);
    }
}
