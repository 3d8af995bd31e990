/** A lagoon whose people go on stilts: who can stand where and when, and how one comes from place to place. */
public final class StiltWays {
    public static final int BAD = -1, NOT = -2, FULL = -3, NONE = -4, NULL = -11, CAST = -12, INDEX = -13, SIZE = -14;

    private static final int PLACES = 12, PEOPLE = 8, NEEDS = 10, POSTS = 3, HOURS = 24, SHEETS = 4, ITEMS = 24;
    private static final int LEAST_DEPTH = -20, MOST_DEPTH = 60, MOST_SPLICE = 20, MOST_SILT = 5, MOST_PACE = 60;
    private static final int MOST_TIDE = 20, MOST_FLOOD = 40, MOST_REACH = 60, MOST_LENGTH = 60;
    private static final int MOST_YEARS = 999, YEARS_AT_ONCE = 30, DAY = 1440, WALK = 600;
    private static final int HINGED = 1, WORN = 2, CHILD = 3;
    private static final int SIGNS = 80, ROWS = 8, FAULT = -20;
    /** Taken off a refusal where an answer that is no refusal may itself be below 0. */
    private static final int BELOW = 100000;

    private final Lagoon now;
    private final Lagoon kept;
    private boolean keeps;
    private final Tape tape;
    private final Walk walk;
    private final Village village;
    private final Exchange exchange;
    private final Sheet[] sheets;

    public StiltWays() {
        now = new Lagoon();
        kept = new Lagoon();
        tape = new Tape();
        walk = new Walk();
        village = new Village();
        exchange = new Exchange();
        sheets = new Sheet[SHEETS];
        for (int i = 0; i < SHEETS; i++) {
            sheets[i] = new Sheet();
        }
    }

    // ---- 1 places, people

    public int place(int depth) {
        if (!within(depth, LEAST_DEPTH, MOST_DEPTH)) {
            return BAD;
        }
        if (now.places >= PLACES) {
            return FULL;
        }
        return now.addPlace(depth, 0);
    }

    public int make(int place, int what, int v) {
        if (!now.hasPlace(place)) {
            return BAD - BELOW;
        }
        switch (what) {
            case 0:
                return within(v, LEAST_DEPTH, MOST_DEPTH) ? changed(now.depths, place, v) : BAD - BELOW;
            case 1:
                return makeSplices(place, v);
            case 2:
                return within(v, -MOST_SILT, MOST_SILT) ? changed(now.silts, place, v) : BAD - BELOW;
            default:
                return BAD - BELOW;
        }
    }

    private int makeSplices(int place, int v) {
        if (!within(v, 0, MOST_SPLICE)) {
            return BAD - BELOW;
        }
        if (v > 0 && now.postsBeside(place) >= POSTS) {
            return FULL - BELOW;
        }
        return changed(now.splices, place, v);
    }

    public int path(int a, int b, int minutes) {
        if (!now.hasPlace(a) || !now.hasPlace(b) || a == b || !within(minutes, 0, MOST_PACE)) {
            return BAD;
        }
        int was = now.minutes[a][b];
        now.join(a, b, minutes);
        return was;
    }

    public int tide(int hour, int v) {
        if (!isHour(hour) || !within(v, -MOST_TIDE, MOST_TIDE)) {
            return BAD - BELOW;
        }
        return changed(now.tideAt, hour, v);
    }

    public int set(int what, int v) {
        if (what == 0 && within(v, 0, MOST_FLOOD)) {
            int was = now.floodTold;
            now.floodTold = v;
            return was;
        }
        if (what == 1 && within(v, 0, MOST_REACH)) {
            int was = now.reach;
            now.reach = v;
            return was;
        }
        return BAD;
    }

    public int person(int kind, int length, int home) {
        if (!within(kind, 0, CHILD) || !within(length, 0, MOST_LENGTH) || !now.hasPlace(home)) {
            return BAD;
        }
        if (now.people >= PEOPLE) {
            return FULL;
        }
        return now.addPerson(kind, length, home);
    }

    public int of(int person, int what) {
        if (!now.hasPerson(person)) {
            return BAD;
        }
        switch (what) {
            case 0:
                return now.kinds[person];
            case 1:
                return now.told[person];
            case 2:
                return now.lengthOf(person);
            case 3:
                return now.homes[person];
            default:
                return BAD;
        }
    }

    public int type(long w, int n) {
        if (!within(n, 1, 8)) {
            return BAD;
        }
        for (int i = 0; i < n; i++) {
            if (!within(byteOf(w, i), 32, 126)) {
                return BAD;
            }
        }
        if (tape.length > SIGNS - n) {
            return FULL;
        }
        for (int i = n - 1; i >= 0; i--) {
            tape.append(byteOf(w, i));
        }
        return tape.length;
    }

    public int lagoon() {
        int answer = tape.readPlaces();
        if (answer > 0) {
            now.settle(tape);
        }
        tape.length = 0;
        return answer;
    }

    public int paths() {
        int answer = tape.readPaths(now.places);
        if (answer > 0) {
            now.joinAll(tape);
        }
        tape.length = 0;
        return answer;
    }

    public int count(int what) {
        switch (what) {
            case 0:
                return now.places;
            case 1:
                return now.countPaths();
            case 2:
                return now.people;
            case 3:
                return now.needs;
            case 4:
                return now.yearsGone;
            default:
                return BAD;
        }
    }

    // ---- 2 water, ways

    public int water(int place, int hour) {
        if (!now.hasPlace(place) || !isHour(hour)) {
            return BAD;
        }
        return now.waterAt(place, hour);
    }

    public int stands(int person, int place, int hour) {
        if (!now.hasPerson(person) || !now.hasPlace(place) || !isHour(hour)) {
            return BAD;
        }
        return now.standsAt(person, place, hour) ? 1 : 0;
    }

    public int hours(int person, int place) {
        if (!now.hasPerson(person) || !now.hasPlace(place)) {
            return BAD;
        }
        int standing = 0;
        for (int hour = 0; hour < HOURS; hour++) {
            if (now.standsAt(person, place, hour)) {
                standing |= 1 << hour;
            }
        }
        return standing;
    }

    public int years(int n) {
        if (!within(n, 1, YEARS_AT_ONCE)) {
            return BAD;
        }
        if (now.yearsGone > MOST_YEARS - n) {
            return FULL;
        }
        now.age(n);
        return now.yearsGone;
    }

    public int way(int person, int place, int minute, int what) {
        if (!now.hasPerson(person) || !now.hasPlace(place) || !isMinute(minute) || !within(what, 0, 1)) {
            return BAD;
        }
        walk.prepare(now, person, minute);
        return what == 0 ? walk.soonest(place) : walk.lightest(place);
    }

    public int race(int some, int place, int minute, int what) {
        if (!now.hasPeople(some) || !now.hasPlace(place) || !isMinute(minute) || !within(what, 0, 1)) {
            return BAD;
        }
        int first = NONE;
        int soonest = WALK + 1;
        int coming = 0;
        for (int person = 0; person < now.people; person++) {
            if (!holds(some, person)) {
                continue;
            }
            walk.prepare(now, person, minute);
            int soon = walk.soonest(place);
            if (soon == NONE) {
                continue;
            }
            coming++;
            if (soon < soonest) {
                soonest = soon;
                first = person;
            }
        }
        return what == 0 ? first : coming;
    }

    // ---- 3 needs, floods, those carried

    public int need(int person, int place, int hour) {
        if (!now.hasPerson(person) || !now.hasPlace(place) || !isHour(hour)) {
            return BAD;
        }
        if (now.needs >= NEEDS) {
            return FULL;
        }
        return now.addNeed(person, place, hour);
    }

    public int met() {
        int all = 0;
        for (int i = 0; i < now.needs; i++) {
            if (now.isMet(i, now.told[now.needers[i]])) {
                all |= 1 << i;
            }
        }
        return all;
    }

    public int lengths(int i) {
        if (i < -1) {
            return BAD;
        }
        if (now.needs == 0) {
            return NOT;
        }
        village.weigh(now);
        return i == -1 ? village.fewestLengths() : village.chosen(i);
    }

    public int meeting(int what) {
        if (!within(what, 0, 2)) {
            return BAD;
        }
        int bar = NONE;
        int when = NONE;
        int most = NONE;
        for (int hour = 0; hour < HOURS; hour++) {
            for (int place = 0; place < now.places; place++) {
                int standing = now.depths[place] < 0 ? now.countStanding(place, hour) : NONE;
                if (standing > most) {
                    bar = place;
                    when = hour;
                    most = standing;
                }
            }
        }
        return what == 0 ? bar : what == 1 ? when : most;
    }

    public int pairs(int apart) {
        if (!within(apart, 0, MOST_LENGTH)) {
            return BAD;
        }
        // Of those left the shortest can marry the next one best of all, so no choice is lost by trying just him.
        int married = 0;
        int left = (1 << now.people) - 1;
        for (int turn = 0; turn < PEOPLE && left != 0; turn++) {
            int one = now.shortestOf(left);
            left &= ~(1 << one);
            if (left == 0) {
                break;
            }
            int next = now.shortestOf(left);
            if (now.lengthOf(next) - now.lengthOf(one) <= apart) {
                married++;
                left &= ~(1 << next);
            }
        }
        return married;
    }

    public int flood(int v, int who) {
        if (!within(v, 0, MOST_FLOOD) || !within(who, -2, now.people - 1)) {
            return BAD;
        }
        exchange.weigh(now, v);
        if (who == -1) {
            return exchange.drownedAsTheyAre();
        }
        return who == -2 ? exchange.fewestDrowned() : exchange.lengthGivenTo(who);
    }

    public int carried(int some, int place, int hour) {
        if (!now.hasPeople(some) || !now.hasPlace(place) || !isHour(hour)) {
            return BAD;
        }
        int carriers = 0;
        int borne = 0;
        for (int person = 0; person < now.people; person++) {
            if (!holds(some, person)) {
                continue;
            }
            if (now.standsAt(person, place, hour)) {
                carriers++;
            } else {
                borne++;
            }
        }
        int ways = 1;
        for (int i = 0; i < borne; i++) {
            ways *= Math.max(0, carriers - i);
        }
        return ways;
    }

    public int wrong(int n, int hour) {
        if (!within(n, 1, YEARS_AT_ONCE) || !isHour(hour)) {
            return BAD;
        }
        int all = 0;
        for (int person = 0; person < now.people; person++) {
            if (now.standsAtHomeIn(person, hour, 0) && !now.standsAtHomeIn(person, hour, n)) {
                all |= 1 << person;
            }
        }
        return all;
    }

    public int clear() {
        int went = now.people;
        now.people = 0;
        now.needs = 0;
        return went;
    }

    public int image() {
        kept.become(now);
        keeps = true;
        return 1;
    }

    public int restore() {
        if (!keeps) {
            return NONE;
        }
        now.become(kept);
        return 1;
    }

    // ---- 4 sheets 0 .. 3: nothing (at first), or a row of a LANE: 0 bytes, 1 shorts, 2 ints (all with a sign),
    // of 0 to 24 items

    public int tides(int sheet, int lane) {
        int refused = refusal(sheet, lane);
        if (refused != 0) {
            return refused;
        }
        Sheet row = sheets[sheet];
        if (row.length < HOURS) {
            return INDEX;
        }
        for (int hour = 0; hour < HOURS; hour++) {
            if (!within(row.items[hour], -MOST_TIDE, MOST_TIDE)) {
                return NOT;
            }
        }
        System.arraycopy(row.items, 0, now.tideAt, 0, HOURS);
        return 1;
    }

    public int sheet(int sheet, int lane, int n) {
        if (!isSheet(sheet) || !isLane(lane) || n > ITEMS) {
            return BAD;
        }
        if (n < 0) {
            return SIZE;
        }
        sheets[sheet].hold(lane, n);
        return n;
    }

    public int drop(int sheet) {
        if (!isSheet(sheet)) {
            return BAD;
        }
        Sheet row = sheets[sheet];
        if (!row.there) {
            return NULL;
        }
        row.there = false;
        return row.length;
    }

    public int item(int sheet, int lane, int i, int v) {
        int refused = refusal(sheet, lane);
        if (refused != 0) {
            return refused;
        }
        Sheet row = sheets[sheet];
        if (!within(i, 0, row.length - 1)) {
            return INDEX;
        }
        row.put(i, v);
        return 1;
    }

    public int copy(int from, int i, int to, int j, int n) {
        if (!isSheet(from) || !isSheet(to)) {
            return BAD;
        }
        Sheet source = sheets[from];
        Sheet target = sheets[to];
        if (!source.there || !target.there) {
            return NULL;
        }
        if (source.lane != target.lane) {
            return CAST;
        }
        if (n < 0 || !source.hasRange(i, n) || !target.hasRange(j, n)) {
            return INDEX;
        }
        System.arraycopy(source.items, i, target.items, j, n);
        return n;
    }

    /** What is refused of a SHEET that is taken as a row of a LANE, or 0. */
    private int refusal(int sheet, int lane) {
        if (!isSheet(sheet) || !isLane(lane)) {
            return BAD;
        }
        if (!sheets[sheet].there) {
            return NULL;
        }
        return sheets[sheet].lane == lane ? 0 : CAST;
    }

    private static boolean within(int v, int least, int most) {
        return v >= least && v <= most;
    }

    private static boolean isHour(int hour) {
        return within(hour, 0, HOURS - 1);
    }

    private static boolean isMinute(int minute) {
        return within(minute, 0, DAY - 1);
    }

    private static boolean isSheet(int sheet) {
        return within(sheet, 0, SHEETS - 1);
    }

    private static boolean isLane(int lane) {
        return within(lane, 0, 2);
    }

    private static boolean holds(int some, int number) {
        return (some >> number & 1) != 0;
    }

    private static int byteOf(long w, int i) {
        return (int) (w >> 8 * i & 255);
    }

    private static int changed(int[] row, int i, int v) {
        int was = row[i];
        row[i] = v;
        return was;
    }

    /** All that an IMAGE keeps, and who can STAND in it. */
    private static final class Lagoon {
        int places;
        final int[] depths = new int[PLACES];
        final int[] splices = new int[PLACES];
        final int[] silts = new int[PLACES];
        /** By both ends; told at either, so that no path has a first end. */
        final int[][] minutes = new int[PLACES][PLACES];
        final int[] tideAt = new int[HOURS];
        int floodTold;
        int reach = 20;
        int people;
        final int[] kinds = new int[PEOPLE];
        final int[] told = new int[PEOPLE];
        final int[] homes = new int[PEOPLE];
        int needs;
        final int[] needers = new int[NEEDS];
        final int[] needPlaces = new int[NEEDS];
        final int[] needHours = new int[NEEDS];
        int yearsGone;

        void become(Lagoon other) {
            places = other.places;
            floodTold = other.floodTold;
            reach = other.reach;
            people = other.people;
            needs = other.needs;
            yearsGone = other.yearsGone;
            System.arraycopy(other.depths, 0, depths, 0, PLACES);
            System.arraycopy(other.splices, 0, splices, 0, PLACES);
            System.arraycopy(other.silts, 0, silts, 0, PLACES);
            System.arraycopy(other.tideAt, 0, tideAt, 0, HOURS);
            System.arraycopy(other.kinds, 0, kinds, 0, PEOPLE);
            System.arraycopy(other.told, 0, told, 0, PEOPLE);
            System.arraycopy(other.homes, 0, homes, 0, PEOPLE);
            System.arraycopy(other.needers, 0, needers, 0, NEEDS);
            System.arraycopy(other.needPlaces, 0, needPlaces, 0, NEEDS);
            System.arraycopy(other.needHours, 0, needHours, 0, NEEDS);
            for (int i = 0; i < PLACES; i++) {
                System.arraycopy(other.minutes[i], 0, minutes[i], 0, PLACES);
            }
        }

        boolean hasPlace(int place) {
            return within(place, 0, places - 1);
        }

        boolean hasPerson(int person) {
            return within(person, 0, people - 1);
        }

        /** Whether a set is not empty and all of it are there. */
        boolean hasPeople(int some) {
            return within(some, 1, (1 << people) - 1);
        }

        int addPlace(int depth, int splice) {
            depths[places] = depth;
            splices[places] = splice;
            silts[places] = 0;
            return places++;
        }

        int addPerson(int kind, int length, int home) {
            kinds[people] = kind;
            told[people] = length;
            homes[people] = home;
            return people++;
        }

        int addNeed(int person, int place, int hour) {
            needers[needs] = person;
            needPlaces[needs] = place;
            needHours[needs] = hour;
            return needs++;
        }

        void join(int a, int b, int pace) {
            minutes[a][b] = pace;
            minutes[b][a] = pace;
        }

        int countPaths() {
            int all = 0;
            for (int a = 0; a < places; a++) {
                for (int b = 0; b < a; b++) {
                    if (minutes[a][b] > 0) {
                        all++;
                    }
                }
            }
            return all;
        }

        int postsBeside(int place) {
            int others = 0;
            for (int i = 0; i < places; i++) {
                if (i != place && splices[i] > 0) {
                    others++;
                }
            }
            return others;
        }

        /** Takes the PLACES that a text has told in place of all that was here. */
        void settle(Tape text) {
            places = 0;
            people = 0;
            needs = 0;
            yearsGone = 0;
            for (int a = 0; a < PLACES; a++) {
                for (int b = 0; b < PLACES; b++) {
                    minutes[a][b] = 0;
                }
            }
            for (int i = 0; i < text.rows; i++) {
                addPlace(text.firsts[i], text.lasts[i]);
            }
        }

        void joinAll(Tape text) {
            for (int i = 0; i < text.rows; i++) {
                join(text.firsts[i], text.seconds[i], text.lasts[i]);
            }
        }

        void age(int n) {
            for (int i = 0; i < places; i++) {
                depths[i] = depthIn(i, n);
            }
            yearsGone += n;
        }

        /** SILT goes one way all the years, so a depth that is bounded once is as if bounded each year. */
        int depthIn(int place, int n) {
            return Math.min(MOST_DEPTH, Math.max(LEAST_DEPTH, depths[place] - n * silts[place]));
        }

        int waterAt(int place, int hour) {
            return waterOver(depths[place], hour, floodTold);
        }

        int waterOver(int depth, int hour, int flood) {
            return Math.max(0, depth + tideAt[hour] + flood);
        }

        int lengthOf(int person) {
            return lengthByKind(kinds[person], told[person], yearsGone);
        }

        int lengthByKind(int kind, int length, int years) {
            if (kind == WORN) {
                return Math.max(0, length - 2);
            }
            return kind == CHILD ? length + years : length;
        }

        boolean fits(int length, int water) {
            return water <= length && length - water <= reach;
        }

        /** Whether one of a KIND STANDS in a WATER on stilts of a length as told. */
        boolean bears(int kind, int length, int years, int water) {
            if (kind == HINGED && fits(length / 2, water)) {
                return true;
            }
            return fits(lengthByKind(kind, length, years), water);
        }

        boolean standsAt(int person, int place, int hour) {
            return bears(kinds[person], told[person], yearsGone, waterAt(place, hour));
        }

        boolean standsAtHomeIn(int person, int hour, int n) {
            int water = waterOver(depthIn(homes[person], n), hour, floodTold);
            return bears(kinds[person], told[person], yearsGone + n, water);
        }

        boolean isMet(int need, int length) {
            int water = waterAt(needPlaces[need], needHours[need]);
            return bears(kinds[needers[need]], length, yearsGone, water);
        }

        /** Whether one does not STAND at HOME at some HOUR of a FLOOD on stilts of a length as told. */
        boolean drownsWith(int person, int length, int flood) {
            int depth = depths[homes[person]];
            for (int hour = 0; hour < HOURS; hour++) {
                if (!bears(kinds[person], length, yearsGone, waterOver(depth, hour, flood))) {
                    return true;
                }
            }
            return false;
        }

        int countStanding(int place, int hour) {
            int all = 0;
            for (int person = 0; person < people; person++) {
                if (standsAt(person, place, hour)) {
                    all++;
                }
            }
            return all;
        }

        /** Who of a set that is not empty has the least LENGTH as by KIND. */
        int shortestOf(int some) {
            int shortest = -1;
            for (int person = 0; person < people; person++) {
                if (holds(some, person) && (shortest < 0 || lengthOf(person) < lengthOf(shortest))) {
                    shortest = person;
                }
            }
            return Math.max(0, shortest);
        }
    }

    /**
     * The ways of one person. What SPLICES he has taken is a set of at most three posts, of which there are eight;
     * which of these eight he can have is again a set, so that one AND tells of all of them whether he STANDS.
     */
    private static final class Walk {
        /** The eight sets that lack the first, the second, the third post. */
        private static final int[] LACKING = {0x55, 0x33, 0x0F};
        /** So many minutes are remembered as the longest path takes, and the one in which one comes. */
        private static final int SLOTS = MOST_PACE + 1;

        private int places;
        private int home;
        private int start;
        private int posts;
        private final int[] postAt = new int[PLACES];
        private final int[] longer = new int[1 << POSTS];
        private final int[][] footing = new int[PLACES][HOURS];
        private final int[][] at = new int[SLOTS][PLACES];
        private final int[] came = new int[PLACES];
        private int edges;
        private final int[] ends = new int[PLACES * PLACES];
        private final int[] otherEnds = new int[PLACES * PLACES];
        private final int[] paces = new int[PLACES * PLACES];

        void prepare(Lagoon lagoon, int person, int minute) {
            places = lagoon.places;
            home = lagoon.homes[person];
            start = minute;
            listPosts(lagoon);
            listEdges(lagoon);
            for (int place = 0; place < places; place++) {
                for (int hour = 0; hour < HOURS; hour++) {
                    footing[place][hour] = footingIn(lagoon, person, lagoon.waterAt(place, hour));
                }
            }
        }

        private void listPosts(Lagoon lagoon) {
            posts = 0;
            longer[0] = 0;
            for (int place = 0; place < places; place++) {
                postAt[place] = -1;
                if (lagoon.splices[place] > 0 && posts < POSTS) {
                    postAt[place] = posts;
                    int lacking = 1 << posts;
                    for (int taken = 0; taken < lacking; taken++) {
                        longer[lacking + taken] = longer[taken] + lagoon.splices[place];
                    }
                    posts++;
                }
            }
        }

        private void listEdges(Lagoon lagoon) {
            edges = 0;
            for (int a = 0; a < places; a++) {
                for (int b = 0; b < a; b++) {
                    if (lagoon.minutes[a][b] > 0) {
                        ends[edges] = a;
                        otherEnds[edges] = b;
                        paces[edges] = lagoon.minutes[a][b];
                        edges++;
                    }
                }
            }
        }

        private int footingIn(Lagoon lagoon, int person, int water) {
            int sets = 0;
            for (int taken = 0; taken < 1 << posts; taken++) {
                int length = lagoon.told[person] + longer[taken];
                if (lagoon.bears(lagoon.kinds[person], length, lagoon.yearsGone, water)) {
                    sets |= 1 << taken;
                }
            }
            return sets;
        }

        int soonest(int target) {
            for (int t = 0; t <= WALK && step(t); t++) {
                if (at[t % SLOTS][target] != 0) {
                    return t;
                }
            }
            return NONE;
        }

        int lightest(int target) {
            int fewest = POSTS + 1;
            for (int t = 0; t <= WALK && fewest > 0 && step(t); t++) {
                fewest = Math.min(fewest, fewestTaken(at[t % SLOTS][target]));
            }
            return fewest > POSTS ? NONE : fewest;
        }

        private int fewestTaken(int sets) {
            int fewest = POSTS + 1;
            for (int taken = 0; taken < 1 << POSTS; taken++) {
                if (holds(sets, taken)) {
                    fewest = Math.min(fewest, Integer.bitCount(taken));
                }
            }
            return fewest;
        }

        /**
         * Where he can be in minute t of his walk; whether he can be anywhere. Who is on a path could as well have
         * stayed at its first end, so one who can be nowhere comes nowhere any more.
         */
        private boolean step(int t) {
            int hour = hourOf(t);
            arrive(t, hour);
            int[] here = at[t % SLOTS];
            boolean any = false;
            for (int place = 0; place < places; place++) {
                int stayed = t > 0 ? at[(t - 1) % SLOTS][place] : 0;
                here[place] = (stayed | came[place] | withSplice(place, came[place])) & footing[place][hour];
                any |= here[place] != 0;
            }
            return any;
        }

        private int hourOf(int t) {
            return (start + t) / 60 % HOURS;
        }

        private void arrive(int t, int hour) {
            for (int place = 0; place < places; place++) {
                came[place] = 0;
            }
            if (t == 0) {
                came[home] = 1 & footing[home][hour];
            }
            for (int i = 0; i < edges; i++) {
                if (paces[i] <= t) {
                    walkAlong(ends[i], otherEnds[i], t - paces[i], hour);
                }
            }
        }

        private void walkAlong(int a, int b, int left, int hour) {
            // No path takes more than an hour, so no hour lies between that of leaving and that of coming.
            int before = hourOf(left);
            int held = footing[a][before] & footing[b][before] & footing[a][hour] & footing[b][hour];
            int[] then = at[left % SLOTS];
            came[a] |= then[b] & held;
            came[b] |= then[a] & held;
        }

        private int withSplice(int place, int sets) {
            int post = postAt[place];
            if (!within(post, 0, POSTS - 1)) {
                return 0;
            }
            return (sets & LACKING[post]) << (1 << post);
        }
    }

    /** The fewest LENGTHS for all who have NEEDS. */
    private static final class Village {
        private static final int MANY = 100;

        private int needy;
        /** By LENGTH: whose NEEDS it meets. */
        private final int[] suits = new int[MOST_LENGTH + 1];
        /** By the least LENGTH that is still free to take, and the people without one: how many they still take. */
        private final int[][] fewest = new int[MOST_LENGTH + 2][1 << PEOPLE];

        void weigh(Lagoon lagoon) {
            needy = 0;
            for (int i = 0; i < lagoon.needs; i++) {
                needy |= 1 << lagoon.needers[i];
            }
            for (int some = 0; some < 1 << PEOPLE; some++) {
                fewest[MOST_LENGTH + 1][some] = some == 0 ? 0 : MANY;
            }
            for (int length = MOST_LENGTH; length >= 0; length--) {
                suits[length] = suitedBy(lagoon, length);
                weighWith(length);
            }
        }

        private int suitedBy(Lagoon lagoon, int length) {
            int all = needy;
            for (int i = 0; i < lagoon.needs; i++) {
                if (!lagoon.isMet(i, length)) {
                    all &= ~(1 << lagoon.needers[i]);
                }
            }
            return all;
        }

        private void weighWith(int length) {
            int[] without = fewest[length + 1];
            for (int some = 0; some <= needy; some++) {
                fewest[length][some] = Math.min(without[some], 1 + without[some & ~suits[length]]);
            }
        }

        int fewestLengths() {
            return fewest[0][needy] < MANY ? fewest[0][needy] : NONE;
        }

        int chosen(int i) {
            if (i >= fewestLengths()) {
                return NONE;
            }
            int left = needy;
            int taken = 0;
            for (int length = 0; length <= MOST_LENGTH; length++) {
                int after = left & ~suits[length];
                if (fewest[length][left] == 1 + fewest[length + 1][after]) {
                    if (taken == i) {
                        return length;
                    }
                    taken++;
                    left = after;
                }
            }
            return NONE;
        }
    }

    /** Who drowns in a FLOOD, and with whose stilts the fewest do. */
    private static final class Exchange {
        private int people;
        /** By person: with whose stilts he is DROWNED. */
        private final int[] drowning = new int[PEOPLE];
        /** By whose stilts are given away, to the first people as they come: how few of the others are DROWNED. */
        private final int[] fewest = new int[1 << PEOPLE];

        void weigh(Lagoon lagoon, int flood) {
            people = lagoon.people;
            for (int person = 0; person < people; person++) {
                drowning[person] = 0;
                for (int other = 0; other < people; other++) {
                    if (lagoon.drownsWith(person, lagoon.told[other], flood)) {
                        drowning[person] |= 1 << other;
                    }
                }
            }
            int all = (1 << people) - 1;
            fewest[all] = 0;
            for (int given = all - 1; given >= 0; given--) {
                fewest[given] = drownedBehind(given, firstBest(given));
            }
        }

        /** How few are DROWNED of those without stilts, if the first of them takes these. */
        private int drownedBehind(int given, int other) {
            int person = Math.min(Integer.bitCount(given), PEOPLE - 1);
            return (drowning[person] >> other & 1) + fewest[given | 1 << other];
        }

        /** The first stilts left that cost as few as any do. */
        private int firstBest(int given) {
            int best = -1;
            for (int other = 0; other < people; other++) {
                if (holds(given, other)) {
                    continue;
                }
                if (best < 0 || drownedBehind(given, other) < drownedBehind(given, best)) {
                    best = other;
                }
            }
            return Math.max(0, best);
        }

        int drownedAsTheyAre() {
            int all = 0;
            for (int person = 0; person < people; person++) {
                if (holds(drowning[person], person)) {
                    all |= 1 << person;
                }
            }
            return all;
        }

        int fewestDrowned() {
            return fewest[0];
        }

        int lengthGivenTo(int who) {
            int given = 0;
            for (int person = 0; person < who; person++) {
                given |= 1 << firstBest(given);
            }
            return firstBest(given);
        }
    }

    /** THE TAPE, and the rows that its text tells: PLACES or PATHS. */
    private static final class Tape {
        int length;
        private final int[] signs = new int[SIGNS];
        private int next;
        private int fault;
        private int postsTold;
        int rows;
        final int[] firsts = new int[ROWS];
        final int[] seconds = new int[ROWS];
        final int[] lasts = new int[ROWS];

        void append(int sign) {
            if (length < SIGNS) {
                signs[length] = sign;
                length++;
            }
        }

        int readPlaces() {
            begin();
            boolean more = true;
            while (more && rows < ROWS) {
                readPlace();
                rows++;
                more = goesOn(';');
            }
            return outcome();
        }

        int readPaths(int places) {
            begin();
            boolean more = true;
            while (more && rows < ROWS) {
                readPath(places);
                rows++;
                more = goesOn(',');
            }
            return outcome();
        }

        private void begin() {
            next = 0;
            rows = 0;
            postsTold = 0;
            fault = -1;
        }

        private int outcome() {
            return fault < 0 ? rows : FAULT - fault;
        }

        private void readPlace() {
            firsts[rows] = readDepth();
            lasts[rows] = 0;
            if (peek() == 'p' && postsTold < POSTS) {
                next++;
                postsTold++;
                lasts[rows] = readNumber(1, MOST_SPLICE);
            }
        }

        private int readDepth() {
            if (peek() != '-') {
                return readNumber(0, MOST_DEPTH);
            }
            next++;
            return -readNumber(0, -LEAST_DEPTH);
        }

        private void readPath(int places) {
            firsts[rows] = readLetter(places, -1);
            seconds[rows] = readLetter(places, firsts[rows]);
            lasts[rows] = readNumber(1, MOST_PACE);
        }

        /** Whether another row follows; what is neither the end nor the sign between two rows is a fault. */
        private boolean goesOn(char between) {
            int sign = peek();
            if (fault >= 0 || sign < 0) {
                return false;
            }
            if (sign != between || rows >= ROWS) {
                faultAt(next);
                return false;
            }
            next++;
            return true;
        }

        /** The next sign behind blanks, or -1 at the end. */
        private int peek() {
            while (next < length && signs[next] == ' ') {
                next++;
            }
            return next < length ? signs[next] : -1;
        }

        private int readLetter(int places, int unlike) {
            int letter = peek() - 'a';
            if (!within(letter, 0, places - 1) || letter == unlike) {
                faultAt(next);
                return 0;
            }
            next++;
            return letter;
        }

        private int readNumber(int least, int most) {
            if (!within(peek(), '0', '9')) {
                faultAt(next);
                return least;
            }
            int first = next;
            int value = 0;
            while (next < length && within(signs[next], '0', '9')) {
                // Held at 100, beyond every bound of a number, so that a long row of figures can't run over.
                value = Math.min(100, value * 10 + signs[next] - '0');
                next++;
            }
            if (!within(value, least, most)) {
                faultAt(first);
                return least;
            }
            return value;
        }

        /** Only the first fault counts; what is read behind it is never used. */
        private void faultAt(int place) {
            if (fault < 0) {
                fault = place;
            }
        }
    }

    /** Nothing, or a row of a LANE. */
    private static final class Sheet {
        boolean there;
        int lane;
        int length;
        final int[] items = new int[ITEMS];

        void hold(int newLane, int n) {
            there = true;
            lane = newLane;
            length = n;
            for (int i = 0; i < ITEMS; i++) {
                items[i] = 0;
            }
        }

        void put(int i, int v) {
            items[i] = lane == 0 ? (byte) v : lane == 1 ? (short) v : v;
        }

        boolean hasRange(int i, int n) {
            return within(i, 0, length) && n <= length - i;
        }
    }
}
