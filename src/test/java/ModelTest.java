import java.util.Random;

/** Long runs of mixed calls: the program and the plain model must answer the same. */
final class ModelTest {
    private static final String[] NAMES = {"place", "make", "path", "tide", "set", "person", "of", "lagoon", "paths",
        "count", "water", "stands", "hours", "years", "way", "race", "need", "met", "lengths", "meeting", "pairs",
        "flood", "carried", "wrong", "clear", "image", "restore", "tides", "sheet", "drop", "item", "copy", "type"};
    /** How often each of these is called. */
    private static final int[] WEIGHTS = {30, 40, 60, 40, 12, 40, 15, 5, 14, 10, 8, 12, 12, 5, 40, 8, 40, 10, 30, 12,
        12, 24, 20, 14, 1, 3, 3, 8, 16, 3, 25, 20, 3};

    private final Random random;
    private final StiltWays x = new StiltWays();
    private final PlainModel m = new PlainModel();
    private final int run;
    private final boolean wild;

    private ModelTest(int run) {
        this.run = run;
        random = new Random(run);
        wild = run % 5 == 0;
    }

    public static void main(String[] args) {
        int runs = args.length > 0 ? Integer.parseInt(args[0]) : 100;
        for (int run = 1; run <= runs; run++) {
            ModelTest test = new ModelTest(run);
            test.begin();
            for (int i = 0; i < 440; i++) {
                test.call(test.pick());
            }
        }
        Due.end();
    }

    /** Most runs begin with a lagoon that can be walked, as wholly random ones are seldom of use. */
    private void begin() {
        int depth = random.nextInt(25) - 5;
        for (int i = 0; i < 3 + random.nextInt(4) && run % 4 != 0; i++) {
            int d = depth + random.nextInt(15) - 5;
            compare("place " + d, x.place(d), m.place(d));
        }
        for (int i = 0; i < 5 && run % 4 != 0; i++) {
            int kind = random.nextInt(4);
            int length = Math.max(0, depth + random.nextInt(15));
            compare("person " + kind + " " + length, x.person(kind, length, i % 3), m.person(kind, length, i % 3));
        }
    }

    private void compare(String call, int got, int want) {
        Due.is("run " + run + ": " + call, got, want);
    }

    private int pick() {
        int sum = 0;
        for (int weight : WEIGHTS) {
            sum += weight;
        }
        int at = random.nextInt(sum);
        int i = 0;
        while (at >= WEIGHTS[i]) {
            at -= WEIGHTS[i];
            i++;
        }
        return i;
    }

    /** Mostly of least .. most, at times just beside it, or far off. */
    private int number(int least, int most) {
        int chance = random.nextInt(wild ? 12 : 60);
        if (chance == 0) {
            return least - 1;
        }
        if (chance == 1) {
            return most + 1;
        }
        if (chance == 2) {
            return random.nextInt(4) == 0 ? random.nextInt() : random.nextBoolean() ? least : most;
        }
        return least > most ? least : least + random.nextInt(most - least + 1);
    }

    private int aPlace() {
        return number(0, m.count(0) - 1);
    }

    private int aPerson() {
        return number(0, m.count(2) - 1);
    }

    private int anHour() {
        return number(0, 23);
    }

    private int aSet() {
        return number(1, (1 << m.count(2)) - 1);
    }

    private void call(int which) {
        int a;
        int b;
        int c;
        int d;
        int e;
        String name = NAMES[which];
        switch (name) {
            case "place":
                if (m.count(0) >= 7 && random.nextInt(10) > 0) {
                    return;
                }
                a = number(-20, 60);
                compare("place(" + a, x.place(a), m.place(a));
                break;
            case "make":
                a = aPlace();
                b = number(0, 2);
                c = b == 0 ? number(-20, random.nextBoolean() ? 20 : 60) : b == 1 ? number(0, 20) : number(-5, 5);
                compare("make(" + a + ", " + b + ", " + c, x.make(a, b, c), m.make(a, b, c));
                break;
            case "path":
                a = aPlace();
                b = aPlace();
                c = number(0, 60);
                compare("path(" + a + ", " + b + ", " + c, x.path(a, b, c), m.path(a, b, c));
                break;
            case "tide":
                a = anHour();
                b = random.nextInt(3) > 0 ? number(-4, 4) : number(-20, 20);
                compare("tide(" + a + ", " + b, x.tide(a, b), m.tide(a, b));
                break;
            case "set":
                a = number(0, 1);
                b = a == 0 ? random.nextInt(3) > 0 ? 0 : number(0, 40) : number(0, 60);
                compare("set(" + a + ", " + b, x.set(a, b), m.set(a, b));
                break;
            case "person":
                if (m.count(2) >= 6 && random.nextInt(9) > 0) {
                    return;
                }
                a = number(0, 3);
                b = number(0, random.nextBoolean() ? 60 : 25);
                c = aPlace();
                compare("person(" + a + ", " + b + ", " + c, x.person(a, b, c), m.person(a, b, c));
                break;
            case "lagoon":
                typeText(placesText());
                compare("lagoon(", x.lagoon(), m.lagoon());
                break;
            case "paths":
                typeText(pathsText());
                compare("paths(", x.paths(), m.paths());
                break;
            case "type":
                long w = random.nextLong() & 0x7F7F7F7F7F7F7F7FL | 0x2020202020202020L;
                a = number(1, 8);
                compare("type(" + w + ", " + a, x.type(w, a), m.type(w, a));
                break;
            case "way":
                a = aPerson();
                b = aPlace();
                c = number(0, 1439);
                d = number(0, 1);
                compare("way(" + a + ", " + b + ", " + c + ", " + d, x.way(a, b, c, d), m.way(a, b, c, d));
                break;
            case "race":
                a = aSet();
                b = aPlace();
                c = number(0, 1439);
                d = number(0, 1);
                compare("race(" + a + ", " + b + ", " + c + ", " + d, x.race(a, b, c, d), m.race(a, b, c, d));
                break;
            case "years":
                a = number(1, random.nextInt(8) == 0 ? 30 : 3);
                compare("years(" + a, x.years(a), m.years(a));
                break;
            case "sheet":
                a = number(0, 3);
                b = random.nextInt(3) == 0 ? number(0, 2) : 1;
                c = random.nextInt(3) == 0 ? 24 : number(0, 24);
                compare("sheet(" + a + ", " + b + ", " + c, x.sheet(a, b, c), m.sheet(a, b, c));
                break;
            case "item":
                a = number(0, 3);
                b = random.nextInt(3) == 0 ? number(0, 2) : 1;
                c = number(0, 23);
                d = random.nextInt(5) == 0 ? random.nextInt() : number(-20, 20);
                compare("item(" + a + ", " + b + ", " + c + ", " + d, x.item(a, b, c, d), m.item(a, b, c, d));
                break;
            case "copy":
                a = number(0, 3);
                b = number(0, 24);
                c = number(0, 3);
                d = number(0, 24);
                e = number(0, 12);
                compare("copy(" + a + ", " + b + ", " + c + ", " + d + ", " + e, x.copy(a, b, c, d, e),
                    m.copy(a, b, c, d, e));
                break;
            default:
                shortCall(name);
                break;
        }
    }

    private void shortCall(String name) {
        int a;
        int b;
        int c;
        switch (name) {
            case "of":
                a = aPerson();
                b = number(0, 3);
                compare("of(" + a + ", " + b, x.of(a, b), m.of(a, b));
                break;
            case "count":
                a = number(0, 4);
                compare("count(" + a, x.count(a), m.count(a));
                break;
            case "water":
                a = aPlace();
                b = anHour();
                compare("water(" + a + ", " + b, x.water(a, b), m.water(a, b));
                break;
            case "stands":
                a = aPerson();
                b = aPlace();
                c = anHour();
                compare("stands(" + a + ", " + b + ", " + c, x.stands(a, b, c), m.stands(a, b, c));
                break;
            case "hours":
                a = aPerson();
                b = aPlace();
                compare("hours(" + a + ", " + b, x.hours(a, b), m.hours(a, b));
                break;
            case "need":
                a = aPerson();
                b = aPlace();
                c = anHour();
                compare("need(" + a + ", " + b + ", " + c, x.need(a, b, c), m.need(a, b, c));
                break;
            case "met":
                compare("met(", x.met(), m.met());
                break;
            case "lengths":
                a = number(-1, 4);
                compare("lengths(" + a, x.lengths(a), m.lengths(a));
                break;
            case "meeting":
                a = number(0, 2);
                compare("meeting(" + a, x.meeting(a), m.meeting(a));
                break;
            case "pairs":
                a = number(0, random.nextBoolean() ? 10 : 60);
                compare("pairs(" + a, x.pairs(a), m.pairs(a));
                break;
            case "flood":
                a = number(0, random.nextBoolean() ? 10 : 40);
                b = number(-2, m.count(2) - 1);
                compare("flood(" + a + ", " + b, x.flood(a, b), m.flood(a, b));
                break;
            case "carried":
                a = aSet();
                b = aPlace();
                c = anHour();
                compare("carried(" + a + ", " + b + ", " + c, x.carried(a, b, c), m.carried(a, b, c));
                break;
            case "wrong":
                a = number(1, 30);
                b = anHour();
                compare("wrong(" + a + ", " + b, x.wrong(a, b), m.wrong(a, b));
                break;
            case "clear":
                compare("clear(", x.clear(), m.clear());
                break;
            case "image":
                compare("image(", x.image(), m.image());
                break;
            case "restore":
                compare("restore(", x.restore(), m.restore());
                break;
            case "tides":
                a = number(0, 3);
                b = random.nextInt(3) == 0 ? number(0, 2) : 1;
                compare("tides(" + a + ", " + b, x.tides(a, b), m.tides(a, b));
                break;
            case "drop":
                a = number(0, 3);
                compare("drop(" + a, x.drop(a), m.drop(a));
                break;
            default:
                throw new IllegalStateException(name);
        }
    }

    private void typeText(String text) {
        for (int from = 0; from < text.length(); from += 8) {
            int to = Math.min(text.length(), from + 8);
            long w = 0;
            for (int i = from; i < to; i++) {
                w = w << 8 | text.charAt(i);
            }
            compare("type(" + text, x.type(w, to - from), m.type(w, to - from));
        }
    }

    private String placesText() {
        StringBuilder text = new StringBuilder();
        int n = 1 + random.nextInt(random.nextInt(6) == 0 ? 9 : 5);
        for (int i = 0; i < n; i++) {
            text.append(i > 0 ? ";" : "").append(blank());
            text.append(random.nextInt(3) == 0 ? "-" : "").append(blank());
            text.append(random.nextInt(9) == 0 ? "0" : "").append(random.nextInt(random.nextInt(9) == 0 ? 65 : 20));
            text.append(blank());
            if (random.nextInt(4) == 0) {
                text.append("p").append(blank()).append(random.nextInt(random.nextInt(5) == 0 ? 23 : 12) + 1);
                text.append(blank());
            }
        }
        return spoilt(text);
    }

    private String pathsText() {
        StringBuilder text = new StringBuilder();
        int n = 1 + random.nextInt(random.nextInt(6) == 0 ? 9 : 5);
        int places = Math.max(2, m.count(0));
        for (int i = 0; i < n; i++) {
            int a = random.nextInt(places);
            int b = (a + 1 + random.nextInt(places - 1)) % places;
            text.append(i > 0 ? "," : "").append(blank()).append((char) ('a' + a)).append(blank());
            text.append((char) ('a' + b)).append(blank()).append(random.nextInt(9) == 0 ? "0" : "");
            text.append(1 + random.nextInt(random.nextInt(9) == 0 ? 70 : 60)).append(blank());
        }
        return spoilt(text);
    }

    private String blank() {
        return random.nextInt(7) == 0 ? " " : "";
    }

    /** Now and then a sign is changed, left out or put in. */
    private String spoilt(StringBuilder text) {
        if (text.length() > 75) {
            text.setLength(75);
        }
        int chance = random.nextInt(8);
        int at = random.nextInt(text.length());
        char sign = " 0123456789-p;,abclxP~".charAt(random.nextInt(22));
        if (chance == 0) {
            text.setCharAt(at, sign);
        } else if (chance == 1) {
            text.deleteCharAt(at);
        } else if (chance == 2) {
            text.insert(at, sign);
        }
        return text.toString();
    }
}
