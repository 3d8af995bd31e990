import java.util.ArrayList;
import java.util.Arrays;
import java.util.HashSet;
import java.util.List;
import java.util.Set;

/** The document once more, in the plainest and slowest form, to compare the program with. */
final class PlainModel {
    private static final class Person {
        final int kind;
        final int length;
        final int home;

        Person(int kind, int length, int home) {
            this.kind = kind;
            this.length = length;
            this.home = home;
        }
    }

    /** What an IMAGE keeps. */
    private static final class World {
        List<int[]> places = new ArrayList<>();
        int[][] paths = new int[12][12];
        int[] tide = new int[24];
        int flood = 0;
        int reach = 20;
        List<Person> people = new ArrayList<>();
        List<int[]> needs = new ArrayList<>();
        int years = 0;

        World twin() {
            World w = new World();
            for (int[] place : places) {
                w.places.add(place.clone());
            }
            for (int i = 0; i < 12; i++) {
                w.paths[i] = paths[i].clone();
            }
            w.tide = tide.clone();
            w.flood = flood;
            w.reach = reach;
            w.people = new ArrayList<>(people);
            w.needs = new ArrayList<>(needs);
            w.years = years;
            return w;
        }
    }

    private World w = new World();
    private World kept = null;
    private String tape = "";
    private final int[][] rows = new int[4][];
    private final int[] lanes = new int[4];

    private boolean noPlace(int p) {
        return p < 0 || p >= w.places.size();
    }

    private boolean noPerson(int p) {
        return p < 0 || p >= w.people.size();
    }

    private static boolean out(int v, int least, int most) {
        return v < least || v > most;
    }

    int place(int depth) {
        if (out(depth, -20, 60)) {
            return -1;
        }
        if (w.places.size() == 12) {
            return -3;
        }
        w.places.add(new int[] {depth, 0, 0});
        return w.places.size() - 1;
    }

    int make(int place, int what, int v) {
        int[] least = {-20, 0, -5};
        int[] most = {60, 20, 5};
        if (noPlace(place) || out(what, 0, 2) || out(v, least[what], most[what])) {
            return -100001;
        }
        int others = 0;
        for (int i = 0; i < w.places.size(); i++) {
            others += i != place && w.places.get(i)[1] != 0 ? 1 : 0;
        }
        if (what == 1 && v != 0 && others == 3) {
            return -100003;
        }
        int was = w.places.get(place)[what];
        w.places.get(place)[what] = v;
        return was;
    }

    int path(int a, int b, int minutes) {
        if (noPlace(a) || noPlace(b) || a == b || out(minutes, 0, 60)) {
            return -1;
        }
        int was = w.paths[Math.min(a, b)][Math.max(a, b)];
        w.paths[Math.min(a, b)][Math.max(a, b)] = minutes;
        return was;
    }

    int tide(int hour, int v) {
        if (out(hour, 0, 23) || out(v, -20, 20)) {
            return -100001;
        }
        int was = w.tide[hour];
        w.tide[hour] = v;
        return was;
    }

    int set(int what, int v) {
        if (out(what, 0, 1) || out(v, 0, what == 0 ? 40 : 60)) {
            return -1;
        }
        int was = what == 0 ? w.flood : w.reach;
        if (what == 0) {
            w.flood = v;
        } else {
            w.reach = v;
        }
        return was;
    }

    int person(int kind, int length, int home) {
        if (out(kind, 0, 3) || out(length, 0, 60) || noPlace(home)) {
            return -1;
        }
        if (w.people.size() == 8) {
            return -3;
        }
        w.people.add(new Person(kind, length, home));
        return w.people.size() - 1;
    }

    int of(int person, int what) {
        if (noPerson(person) || out(what, 0, 3)) {
            return -1;
        }
        Person p = w.people.get(person);
        return new int[] {p.kind, p.length, lengthsOf(p.kind, p.length, w.years)[0], p.home}[what];
    }

    private static int[] lengthsOf(int kind, int length, int years) {
        switch (kind) {
            case 1:
                return new int[] {length, length / 2};
            case 2:
                return new int[] {length < 2 ? 0 : length - 2};
            case 3:
                return new int[] {length + years};
            default:
                return new int[] {length};
        }
    }

    int type(long v, int n) {
        if (out(n, 1, 8)) {
            return -1;
        }
        StringBuilder signs = new StringBuilder();
        for (int i = n - 1; i >= 0; i--) {
            int b = (int) (v >>> (8 * i)) & 0xFF;
            if (out(b, 32, 126)) {
                return -1;
            }
            signs.append((char) b);
        }
        if (tape.length() + n > 80) {
            return -3;
        }
        tape += signs;
        return tape.length();
    }

    /** Reads by states: 0 ahead of a depth, 1 behind its -, 2 behind it, 3 ahead of splices, 4 behind them. */
    int lagoon() {
        String text = tape;
        tape = "";
        List<int[]> read = new ArrayList<>();
        int state = 0;
        int posts = 0;
        int sign = 1;
        int at = 0;
        while (true) {
            if (at == text.length()) {
                if (state != 2 && state != 4) {
                    return -20 - at;
                }
                break;
            }
            char c = text.charAt(at);
            if (c == ' ') {
                at++;
            } else if (state == 0 && c == '-') {
                sign = -1;
                state = 1;
                at++;
            } else if ((state == 0 || state == 1) && Character.isDigit(c)) {
                String figures = figures(text, at);
                if (beyond(figures, sign < 0 ? 20 : 60)) {
                    return -20 - at;
                }
                read.add(new int[] {sign * value(figures), 0, 0});
                sign = 1;
                state = 2;
                at += figures.length();
            } else if (state == 2 && c == 'p' && posts < 3) {
                posts++;
                state = 3;
                at++;
            } else if (state == 3 && Character.isDigit(c)) {
                String figures = figures(text, at);
                if (beyond(figures, 20) || value(figures) == 0) {
                    return -20 - at;
                }
                read.get(read.size() - 1)[1] = value(figures);
                state = 4;
                at += figures.length();
            } else if ((state == 2 || state == 4) && c == ';' && read.size() < 8) {
                state = 0;
                at++;
            } else {
                return -20 - at;
            }
        }
        w.places = read;
        w.paths = new int[12][12];
        w.people.clear();
        w.needs.clear();
        w.years = 0;
        return read.size();
    }

    private static String figures(String text, int from) {
        int to = from;
        while (to < text.length() && Character.isDigit(text.charAt(to))) {
            to++;
        }
        return text.substring(from, to);
    }

    private static boolean beyond(String figures, int most) {
        return new java.math.BigInteger(figures).compareTo(java.math.BigInteger.valueOf(most)) > 0;
    }

    private static int value(String figures) {
        return new java.math.BigInteger(figures).intValueExact();
    }

    /** Reads by states: 0 and 1 ahead of letters, 2 ahead of a number, 3 behind it. */
    int paths() {
        String text = tape;
        tape = "";
        List<int[]> read = new ArrayList<>();
        int[] now = new int[3];
        int state = 0;
        int at = 0;
        while (at < text.length()) {
            char c = text.charAt(at);
            if (c == ' ') {
                at++;
                continue;
            }
            if (state <= 1) {
                if (noPlace(c - 'a') || state == 1 && c - 'a' == now[0]) {
                    return -20 - at;
                }
                now[state] = c - 'a';
                state++;
                at++;
            } else if (state == 2 && Character.isDigit(c)) {
                String figures = figures(text, at);
                if (beyond(figures, 60) || value(figures) == 0) {
                    return -20 - at;
                }
                now[2] = value(figures);
                read.add(now.clone());
                state = 3;
                at += figures.length();
            } else if (state == 3 && c == ',' && read.size() < 8) {
                state = 0;
                at++;
            } else {
                return -20 - at;
            }
        }
        if (state != 3) {
            return -20 - at;
        }
        for (int[] row : read) {
            path(row[0], row[1], row[2]);
        }
        return read.size();
    }

    int count(int what) {
        switch (what) {
            case 0:
                return w.places.size();
            case 1:
                int all = 0;
                for (int[] row : w.paths) {
                    for (int minutes : row) {
                        all += minutes > 0 ? 1 : 0;
                    }
                }
                return all;
            case 2:
                return w.people.size();
            case 3:
                return w.needs.size();
            case 4:
                return w.years;
            default:
                return -1;
        }
    }

    private static int water(World v, int place, int hour, int flood) {
        return Math.max(0, v.places.get(place)[0] + v.tide[hour] + flood);
    }

    private static boolean standing(World v, int kind, int length, int water) {
        for (int l : lengthsOf(kind, length, v.years)) {
            if (water <= l && l <= water + v.reach) {
                return true;
            }
        }
        return false;
    }

    private static boolean standsIn(World v, int person, int place, int hour) {
        Person p = v.people.get(person);
        return standing(v, p.kind, p.length, water(v, place, hour, v.flood));
    }

    int water(int place, int hour) {
        return noPlace(place) || out(hour, 0, 23) ? -1 : water(w, place, hour, w.flood);
    }

    int stands(int person, int place, int hour) {
        if (noPerson(person) || noPlace(place) || out(hour, 0, 23)) {
            return -1;
        }
        return standsIn(w, person, place, hour) ? 1 : 0;
    }

    int hours(int person, int place) {
        if (noPerson(person) || noPlace(place)) {
            return -1;
        }
        int all = 0;
        for (int hour = 0; hour < 24; hour++) {
            all += stands(person, place, hour) << hour;
        }
        return all;
    }

    private static void oneYear(World v) {
        v.years++;
        for (int[] place : v.places) {
            place[0] = Math.max(-20, Math.min(60, place[0] - place[2]));
        }
    }

    int years(int n) {
        if (out(n, 1, 30)) {
            return -1;
        }
        if (w.years + n > 999) {
            return -3;
        }
        for (int i = 0; i < n; i++) {
            oneYear(w);
        }
        return w.years;
    }

    /** Of a walk, by splices taken, place and hour: 0 not asked yet, 1 he doesn't stand, 2 he does. */
    private final byte[] known = new byte[4096 * 12 * 24];

    /** By minutes: all states (place and splices taken, as a set of places) that one can be in. */
    private int[] wayOf(int person, int target, int start) {
        Arrays.fill(known, (byte) 0);
        Person p = w.people.get(person);
        List<Set<Integer>> at = new ArrayList<>();
        for (int t = 0; t <= 600; t++) {
            at.add(new HashSet<>());
        }
        come(at.get(0), p, p.home, 0, start);
        int soon = -4;
        int light = -4;
        for (int t = 0; t <= 600; t++) {
            for (int state : at.get(t)) {
                int here = state >> 12;
                int taken = state & 4095;
                if (here == target) {
                    soon = soon == -4 ? t : soon;
                    light = light == -4 ? Integer.bitCount(taken) : Math.min(light, Integer.bitCount(taken));
                }
                if (t < 600 && standingAt(p, here, taken, start + t + 1)) {
                    at.get(t + 1).add(state);
                }
                for (int to = 0; to < w.places.size(); to++) {
                    int minutes = w.paths[Math.min(here, to)][Math.max(here, to)];
                    if (minutes > 0 && t + minutes <= 600 && along(p, here, to, taken, start + t, minutes)) {
                        come(at.get(t + minutes), p, to, taken, start + t + minutes);
                    }
                }
            }
        }
        return new int[] {soon, light};
    }

    private void come(Set<Integer> states, Person p, int place, int taken, int minute) {
        if (!standingAt(p, place, taken, minute)) {
            return;
        }
        states.add(place << 12 | taken);
        int more = taken | 1 << place;
        if (w.places.get(place)[1] > 0 && more != taken && standingAt(p, place, more, minute)) {
            states.add(place << 12 | more);
        }
    }

    private boolean along(Person p, int a, int b, int taken, int from, int minutes) {
        for (int minute = from; minute <= from + minutes; minute++) {
            if (!standingAt(p, a, taken, minute) || !standingAt(p, b, taken, minute)) {
                return false;
            }
        }
        return true;
    }

    private boolean standingAt(Person p, int place, int taken, int minute) {
        int key = (taken * 12 + place) * 24 + minute / 60 % 24;
        if (known[key] == 0) {
            known[key] = (byte) (findStanding(p, place, taken, minute) ? 2 : 1);
        }
        return known[key] == 2;
    }

    private boolean findStanding(Person p, int place, int taken, int minute) {
        int length = p.length;
        for (int i = 0; i < 12; i++) {
            length += (taken >> i & 1) != 0 ? w.places.get(i)[1] : 0;
        }
        return standing(w, p.kind, length, water(w, place, minute / 60 % 24, w.flood));
    }

    int way(int person, int place, int minute, int what) {
        if (noPerson(person) || noPlace(place) || out(minute, 0, 1439) || out(what, 0, 1)) {
            return -1;
        }
        return wayOf(person, place, minute)[what];
    }

    private boolean noSet(int some) {
        return some < 1 || some >= Math.pow(2, w.people.size());
    }

    int race(int some, int place, int minute, int what) {
        if (noSet(some) || noPlace(place) || out(minute, 0, 1439) || out(what, 0, 1)) {
            return -1;
        }
        int best = -4;
        int bestTime = 0;
        int all = 0;
        for (int i = 0; i < w.people.size(); i++) {
            int soon = (some & 1 << i) == 0 ? -4 : wayOf(i, place, minute)[0];
            if (soon != -4) {
                all++;
                if (best == -4 || soon < bestTime) {
                    best = i;
                    bestTime = soon;
                }
            }
        }
        return what == 0 ? best : all;
    }

    int need(int person, int place, int hour) {
        if (noPerson(person) || noPlace(place) || out(hour, 0, 23)) {
            return -1;
        }
        if (w.needs.size() == 10) {
            return -3;
        }
        w.needs.add(new int[] {person, place, hour});
        return w.needs.size() - 1;
    }

    int met() {
        int all = 0;
        for (int i = 0; i < w.needs.size(); i++) {
            int[] need = w.needs.get(i);
            all |= standsIn(w, need[0], need[1], need[2]) ? 1 << i : 0;
        }
        return all;
    }

    int lengths(int i) {
        if (i < -1) {
            return -1;
        }
        if (w.needs.isEmpty()) {
            return -2;
        }
        int[] served = new int[61];
        for (int length = 0; length <= 60; length++) {
            for (int person = 0; person < w.people.size(); person++) {
                served[length] |= servesOne(person, length) ? 1 << person : 0;
            }
        }
        for (int size = 1; size <= 8; size++) {
            int[] row = new int[size];
            if (firstRow(served, row, 0, 0, 0)) {
                return i == -1 ? size : i < size ? row[i] : -4;
            }
        }
        return -4;
    }

    /** Goes through all rows from the first on, but for those that all the LENGTHS behind would not save. */
    private boolean firstRow(int[] served, int[] row, int filled, int least, int so) {
        int all = (1 << w.people.size()) - 1;
        if (filled == row.length) {
            return so == all;
        }
        int hope = so;
        for (int length = least; length <= 60; length++) {
            hope |= served[length];
        }
        for (int length = least; length <= 60 && hope == all; length++) {
            row[filled] = length;
            if (firstRow(served, row, filled + 1, length + 1, so | served[length])) {
                return true;
            }
        }
        return false;
    }

    private boolean servesOne(int person, int length) {
        for (int[] need : w.needs) {
            int kind = w.people.get(need[0]).kind;
            if (need[0] == person && !standing(w, kind, length, water(w, need[1], need[2], w.flood))) {
                return false;
            }
        }
        return true;
    }

    int meeting(int what) {
        if (out(what, 0, 2)) {
            return -1;
        }
        int[] best = {-4, -4, -4};
        for (int n = 8; n >= 0; n--) {
            for (int hour = 0; hour < 24; hour++) {
                for (int place = 0; place < w.places.size(); place++) {
                    int all = 0;
                    for (int i = 0; i < w.people.size(); i++) {
                        all += stands(i, place, hour);
                    }
                    if (w.places.get(place)[0] < 0 && all == n && best[0] == -4) {
                        best = new int[] {place, hour, n};
                    }
                }
            }
        }
        return best[what];
    }

    int pairs(int apart) {
        return out(apart, 0, 60) ? -1 : mostPairs(apart, 0);
    }

    private int mostPairs(int apart, int done) {
        int one = Integer.numberOfTrailingZeros(~done);
        if (one >= w.people.size()) {
            return 0;
        }
        int best = mostPairs(apart, done | 1 << one);
        for (int other = one + 1; other < w.people.size(); other++) {
            if ((done & 1 << other) == 0 && Math.abs(of(one, 2) - of(other, 2)) <= apart) {
                best = Math.max(best, 1 + mostPairs(apart, done | 1 << one | 1 << other));
            }
        }
        return best;
    }

    int flood(int v, int who) {
        if (out(v, 0, 40) || out(who, -2, w.people.size() - 1)) {
            return -1;
        }
        int n = w.people.size();
        if (who == -1) {
            int all = 0;
            for (int i = 0; i < n; i++) {
                all |= drowned(i, i, v) ? 1 << i : 0;
            }
            return all;
        }
        int[] best = new int[n];
        boolean[][] drowned = new boolean[n][n];
        for (int i = 0; i < n; i++) {
            for (int other = 0; other < n; other++) {
                drowned[i][other] = drowned(i, other, v);
            }
        }
        int fewest = bestRow(drowned, new int[n], 0, 99, best);
        return who == -2 ? fewest : best[who];
    }

    /** Goes through all rows from the first on, so a later one must be better to count. */
    private int bestRow(boolean[][] drowned, int[] row, int filled, int fewest, int[] best) {
        int n = row.length;
        if (filled == n) {
            int all = 0;
            for (int i = 0; i < n; i++) {
                all += drowned[i][row[i]] ? 1 : 0;
            }
            if (all < fewest) {
                System.arraycopy(row, 0, best, 0, n);
            }
            return Math.min(all, fewest);
        }
        int now = fewest;
        for (int other = 0; other < n; other++) {
            boolean free = true;
            for (int i = 0; i < filled; i++) {
                free &= row[i] != other;
            }
            if (free) {
                row[filled] = other;
                now = bestRow(drowned, row, filled + 1, now, best);
            }
        }
        return now;
    }

    private boolean drowned(int person, int whose, int v) {
        Person p = w.people.get(person);
        for (int hour = 0; hour < 24; hour++) {
            if (!standing(w, p.kind, w.people.get(whose).length, water(w, p.home, hour, v))) {
                return true;
            }
        }
        return false;
    }

    int carried(int some, int place, int hour) {
        if (noSet(some) || noPlace(place) || out(hour, 0, 23)) {
            return -1;
        }
        return waysToCarry(some, place, hour, 0, 0);
    }

    private int waysToCarry(int some, int place, int hour, int person, int busy) {
        if (person == w.people.size()) {
            return 1;
        }
        if ((some & 1 << person) == 0 || stands(person, place, hour) == 1) {
            return waysToCarry(some, place, hour, person + 1, busy);
        }
        int ways = 0;
        for (int by = 0; by < w.people.size(); by++) {
            if ((some & 1 << by) != 0 && (busy & 1 << by) == 0 && stands(by, place, hour) == 1) {
                ways += waysToCarry(some, place, hour, person + 1, busy | 1 << by);
            }
        }
        return ways;
    }

    int wrong(int n, int hour) {
        if (out(n, 1, 30) || out(hour, 0, 23)) {
            return -1;
        }
        World later = w.twin();
        for (int i = 0; i < n; i++) {
            oneYear(later);
        }
        int all = 0;
        for (int i = 0; i < w.people.size(); i++) {
            int home = w.people.get(i).home;
            all |= standsIn(w, i, home, hour) && !standsIn(later, i, home, hour) ? 1 << i : 0;
        }
        return all;
    }

    int clear() {
        int all = w.people.size();
        w.people.clear();
        w.needs.clear();
        return all;
    }

    int image() {
        kept = w.twin();
        return 1;
    }

    int restore() {
        if (kept == null) {
            return -4;
        }
        w = kept.twin();
        return 1;
    }

    int tides(int sheet, int lane) {
        if (out(sheet, 0, 3) || out(lane, 0, 2)) {
            return -1;
        }
        if (rows[sheet] == null) {
            return -11;
        }
        if (lanes[sheet] != lane) {
            return -12;
        }
        if (rows[sheet].length < 24) {
            return -13;
        }
        for (int v : rows[sheet]) {
            if (out(v, -20, 20)) {
                return -2;
            }
        }
        w.tide = rows[sheet].clone();
        return 1;
    }

    int sheet(int sheet, int lane, int n) {
        if (out(sheet, 0, 3) || out(lane, 0, 2) || n > 24) {
            return -1;
        }
        if (n < 0) {
            return -14;
        }
        rows[sheet] = new int[n];
        lanes[sheet] = lane;
        return n;
    }

    int drop(int sheet) {
        if (out(sheet, 0, 3)) {
            return -1;
        }
        if (rows[sheet] == null) {
            return -11;
        }
        int had = rows[sheet].length;
        rows[sheet] = null;
        return had;
    }

    int item(int sheet, int lane, int i, int v) {
        if (out(sheet, 0, 3) || out(lane, 0, 2)) {
            return -1;
        }
        if (rows[sheet] == null) {
            return -11;
        }
        if (lanes[sheet] != lane) {
            return -12;
        }
        if (out(i, 0, rows[sheet].length - 1)) {
            return -13;
        }
        int bits = 8 << lane;
        rows[sheet][i] = v << 32 - bits >> 32 - bits;
        return 1;
    }

    int copy(int from, int i, int to, int j, int n) {
        if (out(from, 0, 3) || out(to, 0, 3)) {
            return -1;
        }
        if (rows[from] == null || rows[to] == null) {
            return -11;
        }
        if (lanes[from] != lanes[to]) {
            return -12;
        }
        if (n < 0 || i < 0 || j < 0 || (long) i + n > rows[from].length || (long) j + n > rows[to].length) {
            return -13;
        }
        int[] taken = Arrays.copyOfRange(rows[from], i, i + n);
        for (int k = 0; k < n; k++) {
            rows[to][j + k] = taken[k];
        }
        return n;
    }
}
