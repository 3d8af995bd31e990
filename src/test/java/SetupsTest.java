import java.util.Random;

/** Small lagoons made for it: ways by splices, villages of several lengths, floods, against the plain model. */
final class SetupsTest {
    private final Random random;
    private final int run;
    private final StiltWays x = new StiltWays();
    private final PlainModel m = new PlainModel();
    private int places;
    private int people;

    private SetupsTest(int run) {
        this.run = run;
        random = new Random(1000 + run);
    }

    public static void main(String[] args) {
        int runs = args.length > 0 ? Integer.parseInt(args[0]) : 120;
        int[] seen = new int[4];
        int several = 0;
        for (int run = 1; run <= runs; run++) {
            SetupsTest ways = new SetupsTest(run);
            ways.lagoonOfPosts();
            ways.askWays(seen);
            SetupsTest village = new SetupsTest(-run);
            several += village.village() > 2 ? 1 : 0;
            village.floods();
        }
        for (int splices = 0; splices < 4; splices++) {
            Due.is("ways by " + splices + " splices are among them", seen[splices] > runs / 40 ? 1 : 0, 1);
        }
        Due.is("villages of more than two lengths are among them", several > runs / 40 ? 1 : 0, 1);
        Due.end();
    }

    private int below(int n) {
        return random.nextInt(n);
    }

    private void same(String call, int got, int want) {
        Due.is("set-up " + run + ": " + call, got, want);
    }

    private void makeTide(int apart) {
        for (int hour = 0; hour < 24; hour++) {
            int v = below(2 * apart + 1) - apart;
            same("tide", x.tide(hour, v), m.tide(hour, v));
        }
    }

    /** Places that deepen, with splices on the way and people whose stilts are seldom long enough. */
    private void lagoonOfPosts() {
        places = 4 + below(4);
        int step = 2 + below(6);
        for (int i = 0; i < places; i++) {
            int depth = 5 + i * step + below(3);
            same("place", x.place(depth), m.place(depth));
        }
        for (int post = 0; post < 3; post++) {
            int place = below(places - 1);
            int size = 2 + below(3 * step);
            same("make", x.make(place, 1, Math.min(20, size)), m.make(place, 1, Math.min(20, size)));
        }
        for (int i = 1; i < places; i++) {
            addPath(i - 1, i);
            addPath(below(i), i);
        }
        makeTide(below(4));
        int reach = step + below(30);
        same("set", x.set(1, reach), m.set(1, reach));
        people = 3;
        for (int i = 0; i < people; i++) {
            int kind = below(4);
            int home = below(2);
            int length = Math.min(60, 6 + home * step + below(6) + (kind == 2 ? 2 : 0));
            same("person", x.person(kind, length, home), m.person(kind, length, home));
        }
    }

    private void addPath(int a, int b) {
        int minutes = 1 + below(60);
        same("path", x.path(a, b, minutes), m.path(a, b, minutes));
    }

    private void askWays(int[] seen) {
        int minute = below(1440);
        for (int person = 0; person < people; person++) {
            for (int place = 0; place < places; place++) {
                for (int what = 0; what < 2; what++) {
                    int want = m.way(person, place, minute, what);
                    same("way(" + person + ", " + place + ", " + minute + ", " + what,
                        x.way(person, place, minute, what), want);
                    if (what == 1 && want >= 0) {
                        seen[want]++;
                    }
                }
            }
        }
        int some = 1 + below(7);
        int place = below(places);
        same("race 0", x.race(some, place, minute, 0), m.race(some, place, minute, 0));
        same("race 1", x.race(some, place, minute, 1), m.race(some, place, minute, 1));
    }

    private int village() {
        places = 8;
        for (int i = 0; i < places; i++) {
            int depth = below(50);
            same("place", x.place(depth), m.place(depth));
        }
        makeTide(3);
        int reach = 3 + below(12);
        same("set", x.set(1, reach), m.set(1, reach));
        people = 3 + below(run % 30 == 0 ? 6 : 4);
        for (int i = 0; i < people; i++) {
            int kind = below(4);
            int length = below(61);
            int home = below(places);
            same("person", x.person(kind, length, home), m.person(kind, length, home));
            int n = below(5) == 0 ? 2 : 1;
            for (int need = 0; need < n; need++) {
                int hour = below(24);
                same("need", x.need(i, home, hour), m.need(i, home, hour));
            }
        }
        int years = 1 + below(5);
        same("years", x.years(years), m.years(years));
        int n = m.lengths(-1);
        for (int i = -1; i <= Math.max(0, n); i++) {
            same("lengths(" + i, x.lengths(i), m.lengths(i));
        }
        same("met", x.met(), m.met());
        return n;
    }

    private void floods() {
        int reach = 15 + below(45);
        same("set", x.set(1, reach), m.set(1, reach));
        for (int turn = 0; turn < 3; turn++) {
            int v = below(41);
            for (int who = -2; who < people; who++) {
                same("flood(" + v + ", " + who, x.flood(v, who), m.flood(v, who));
            }
            int some = 1 + below((1 << people) - 1);
            int place = below(places);
            int hour = below(24);
            same("carried(" + some + ", " + place + ", " + hour, x.carried(some, place, hour),
                m.carried(some, place, hour));
            same("pairs(" + v, x.pairs(v), m.pairs(v));
            same("pairs(" + v / 5, x.pairs(v / 5), m.pairs(v / 5));
        }
    }
}
