import java.io.IOException;
import java.lang.reflect.Constructor;
import java.lang.reflect.Field;
import java.lang.reflect.Method;
import java.lang.reflect.Modifier;
import java.nio.charset.StandardCharsets;
import java.nio.file.Files;
import java.nio.file.Path;
import java.util.ArrayList;
import java.util.Arrays;
import java.util.Collections;
import java.util.List;
import java.util.Random;
import java.util.regex.Matcher;
import java.util.regex.Pattern;

/** The public face of the document, and what of LANGUAGE.md can be seen by reflection or in the source. */
final class FaceTest {
    private static final String[] FACE = {"place(int)", "make(int,int,int)", "path(int,int,int)", "tide(int,int)",
        "set(int,int)", "person(int,int,int)", "of(int,int)", "type(long,int)", "lagoon()", "paths()", "count(int)",
        "water(int,int)", "stands(int,int,int)", "hours(int,int)", "years(int)", "way(int,int,int,int)",
        "race(int,int,int,int)", "need(int,int,int)", "met()", "lengths(int)", "meeting(int)", "pairs(int)",
        "flood(int,int)", "carried(int,int,int)", "wrong(int,int)", "clear()", "image()", "restore()",
        "tides(int,int)", "sheet(int,int,int)", "drop(int)", "item(int,int,int,int)", "copy(int,int,int,int,int)"};
    private static final String[] CONSTANTS = {"BAD=-1", "NOT=-2", "FULL=-3", "NONE=-4", "NULL=-11", "CAST=-12",
        "INDEX=-13", "SIZE=-14"};
    private static final String[] FORBIDDEN = {"->", "::", "import ", "package ", "catch", "throw", "try ", "finally",
        "synchronized", "assert ", "System.out", "Exact(", "random", "currentTime", "Object", "var ", "null"};

    private static final String SOURCE = "src/main/java/StiltWays.java", DOCUMENT = "../shared/DOC.md";

    public static void main(String[] args) throws IOException, ReflectiveOperationException {
        methods();
        constants();
        otherMembers();
        insideClasses();
        source();
        documentsFace();
        documentsSections();
        lastCall();
        anyArguments();
        Due.end();
    }

    private static void holds(String told, boolean so) {
        Due.is(told, so ? 1 : 0, 1);
    }

    private static void methods() {
        List<String> due = new ArrayList<>(Arrays.asList(FACE));
        List<String> got = new ArrayList<>();
        for (Method method : StiltWays.class.getDeclaredMethods()) {
            if (Modifier.isPublic(method.getModifiers())) {
                StringBuilder types = new StringBuilder();
                for (Class<?> type : method.getParameterTypes()) {
                    types.append(types.length() > 0 ? "," : "").append(type.getName());
                }
                got.add(method.getName() + "(" + types + ")");
                holds("answers int: " + method, method.getReturnType() == int.class);
                holds("no static: " + method, !Modifier.isStatic(method.getModifiers()));
            } else {
                holds("private: " + method, Modifier.isPrivate(method.getModifiers()));
            }
        }
        Collections.sort(due);
        Collections.sort(got);
        holds("the face is " + got, got.equals(due));
        holds("public and final", StiltWays.class.getModifiers() == (Modifier.PUBLIC | Modifier.FINAL));
        Constructor<?>[] made = StiltWays.class.getDeclaredConstructors();
        holds("one public constructor", made.length == 1 && made[0].getParameterCount() == 0
            && made[0].getModifiers() == Modifier.PUBLIC);
    }

    private static void constants() throws IllegalAccessException {
        List<String> got = new ArrayList<>();
        for (Field field : StiltWays.class.getDeclaredFields()) {
            if (Modifier.isPublic(field.getModifiers())) {
                holds("a constant int: " + field, field.getType() == int.class
                    && Modifier.isStatic(field.getModifiers()) && Modifier.isFinal(field.getModifiers()));
                got.add(field.getName() + "=" + field.getInt(null));
            }
        }
        holds("the constants are " + got, got.equals(Arrays.asList(CONSTANTS)));
    }

    private static void otherMembers() {
        int fields = 0;
        for (Field field : StiltWays.class.getDeclaredFields()) {
            int modifiers = field.getModifiers();
            if (!Modifier.isPublic(modifiers)) {
                holds("private: " + field, Modifier.isPrivate(modifiers));
            }
            fields += Modifier.isStatic(modifiers) ? 0 : 1;
        }
        holds("some twenty fields", fields <= 20);
    }

    private static void insideClasses() {
        Class<?>[] inside = StiltWays.class.getDeclaredClasses();
        holds("some twelve classes", inside.length < 12);
        List<String> face = new ArrayList<>();
        for (String method : FACE) {
            face.add(method.substring(0, method.indexOf('(')));
        }
        for (Class<?> one : inside) {
            holds("static: " + one, Modifier.isStatic(one.getModifiers()));
            int fields = 0;
            for (Field field : one.getDeclaredFields()) {
                boolean lasting = Modifier.isStatic(field.getModifiers());
                holds("a static field is final: " + field, !lasting || Modifier.isFinal(field.getModifiers()));
                fields += lasting ? 0 : 1;
            }
            holds("some twenty fields: " + one, fields <= 20);
            for (Method method : one.getDeclaredMethods()) {
                holds("no name of the face: " + method, !face.contains(method.getName()));
                holds("seven parameters: " + method, method.getParameterCount() <= 7);
            }
        }
    }

    private static String read(String path) throws IOException {
        return Files.readString(Path.of(path), StandardCharsets.ISO_8859_1);
    }

    /** Every line of the document's face stands so in the source, in the document's order. */
    private static void documentsFace() throws IOException {
        if (!Files.isReadable(Path.of(DOCUMENT))) {
            return;
        }
        String document = read(DOCUMENT);
        int from = document.indexOf("```java") + "```java".length();
        String source = read(SOURCE);
        int behind = 0;
        int lines = 0;
        for (String line : document.substring(from, document.indexOf("```", from)).split("\n")) {
            if (line.isBlank()) {
                continue;
            }
            boolean call = line.endsWith(");");
            String due = call ? line.replace(";", " {") : line;
            int at = line.equals("}") ? behind : source.indexOf(due, behind);
            holds("in the source, in order: " + due, at >= behind);
            behind = Math.max(behind, at);
            lines++;
        }
        Due.is("lines of the face: the class, its constants, its constructor, 33 calls, its end", lines, 37);
    }

    /** What the interface says ahead of some calls stands as a comment ahead of the first of them. */
    private static void documentsSections() throws IOException {
        if (!Files.isReadable(Path.of(DOCUMENT))) {
            return;
        }
        String source = read(SOURCE).replaceAll("\n *(// )?", " ");
        Pattern told = Pattern.compile("Ahead of the calls `(\\w+)`[^\n]*says: (---- [^\n]*)\\.\n");
        Matcher section = told.matcher(read(DOCUMENT));
        int sections = 0;
        while (section.find()) {
            String due = section.group(2) + " public int " + section.group(1) + "(";
            holds("in the source: " + due, source.replaceAll(" +", " ").contains(due));
            sections++;
        }
        Due.is("sections of the interface", sections, 4);
    }

    private static void source() throws IOException {
        String text = read(SOURCE);
        for (int i = 0; i < text.length(); i++) {
            if (text.charAt(i) > 126 || text.charAt(i) == '\t') {
                holds("plain signs alone, at " + i, false);
            }
        }
        String code = text.replaceAll("(?s)/\\*.*?\\*/", "").replaceAll("//[^\n]*", "");
        for (String word : FORBIDDEN) {
            holds("nothing of " + word, !code.contains(word));
        }
        Matcher library = Pattern.compile("\\b(System|Math|Integer|Long|Arrays|String)\\.(\\w+)").matcher(code);
        List<String> known = List.of("System.arraycopy", "Math.max", "Math.min", "Math.abs", "Integer.bitCount");
        while (library.find()) {
            holds("a call of the library: " + library.group(), known.contains(library.group()));
        }
        methodLengths(text.split("\n"));
    }

    private static void methodLengths(String[] lines) {
        int began = 0;
        for (int i = 0; i < lines.length; i++) {
            holds("a line of 120 signs at most: " + (i + 1), lines[i].length() <= 120);
            if (lines[i].matches(" {4,8}[a-zA-Z].*\\) \\{")) {
                began = i;
            }
            if (lines[i].matches(" {4,8}\\}")) {
                holds("a short method at " + (began + 1), i - began < 60);
            }
        }
    }

    /** An object still answers as told in its 512th call, and remembers all that came ahead. */
    private static void lastCall() {
        StiltWays x = new StiltWays();
        x.place(5);
        x.person(0, 15, 0);
        int[] tide = new int[24];
        for (int call = 3; call < 512; call++) {
            int hour = call % 24;
            int v = call * 7 % 41 - 20;
            Due.is("call " + call + ": tide", x.tide(hour, v), tide[hour]);
            tide[hour] = v;
        }
        int due = 0;
        for (int hour = 0; hour < 24; hour++) {
            int water = Math.max(0, 5 + tide[hour]);
            due |= water <= 15 ? 1 << hour : 0;
        }
        holds("some hours, but not all", due != 0 && due != (1 << 24) - 1);
        Due.is("call 512: hours", x.hours(0, 0), due);
    }

    /** No call throws, and every run of calls ends, for any arguments in any state. */
    private static void anyArguments() throws ReflectiveOperationException {
        int[] edges = {Integer.MIN_VALUE, Integer.MIN_VALUE + 1, -100, -21, -20, -2, -1, 0, 1, 2, 3, 7, 8, 11, 12, 20,
            23, 24, 25, 31, 32, 60, 61, 80, 255, 256, 1439, 1440, Integer.MAX_VALUE - 1, Integer.MAX_VALUE};
        List<Method> face = new ArrayList<>();
        for (Method method : StiltWays.class.getDeclaredMethods()) {
            if (Modifier.isPublic(method.getModifiers())) {
                face.add(method);
            }
        }
        face.sort((a, b) -> a.getName().compareTo(b.getName()));
        Random random = new Random(5);
        for (int run = 0; run < 400; run++) {
            StiltWays x = new StiltWays();
            if (run % 2 == 0) {
                Due.lagoon(x, "-5p3;3p9;10;18p20;-12;25");
                Due.paths(x, "ab20,bc25,cd30,de40,df15,ae55");
            }
            for (int call = 0; call < 512; call++) {
                Method method = face.get(random.nextInt(face.size()));
                Object[] arguments = new Object[method.getParameterCount()];
                for (int i = 0; i < arguments.length; i++) {
                    int v = random.nextInt(3) > 0 ? random.nextInt(9) : edges[random.nextInt(edges.length)];
                    arguments[i] = method.getParameterTypes()[i] == long.class ? (Object) text(random) : (Object) v;
                }
                try {
                    method.invoke(x, arguments);
                } catch (java.lang.reflect.InvocationTargetException thrown) {
                    holds(method + " of " + Arrays.toString(arguments) + " threw " + thrown.getCause(), false);
                }
            }
        }
    }

    private static long text(Random random) {
        String signs = "0123456789-p;,abcdefghijkl ~";
        long w = 0;
        for (int i = 0; i < 8; i++) {
            w = w << 8 | signs.charAt(random.nextInt(signs.length()));
        }
        return w;
    }
}
