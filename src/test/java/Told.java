import java.io.IOException;
import java.nio.charset.StandardCharsets;
import java.nio.file.Files;
import java.nio.file.Path;

/** The sentences of the document that have tests: each must stand in it word by word, and none may be left out. */
final class Told {
    private static final Path DOCUMENT = Path.of("../shared/DOC.md");
    private static final int PROMISES = 34;
    /** What the document says in its Terms (0) and in each promise, with single blanks. */
    private static final String[] TEXTS = new String[PROMISES + 1];
    private static final boolean[][] TESTED = new boolean[PROMISES + 1][];
    private static boolean read = false;

    private Told() {
    }

    /** The answers asked from here on test a sentence (or a part of one) of a promise, or of the Terms (0). */
    static void of(int promise, String sentence) {
        Due.sentence(promise + " \"" + sentence + "\"");
        if (!hasDocument()) {
            return;
        }
        int from = TEXTS[promise].indexOf(sentence);
        Due.is("it stands in the document", from >= 0 ? 1 : 0, 1);
        for (int i = Math.max(0, from); from >= 0 && i < from + sentence.length(); i++) {
            TESTED[promise][i] = true;
        }
    }

    /** Tells every part of the document that no test has named. */
    static void all() {
        for (int promise = 0; promise <= PROMISES && hasDocument(); promise++) {
            StringBuilder left = new StringBuilder();
            for (int i = 0; i < TEXTS[promise].length(); i++) {
                if (!TESTED[promise][i]) {
                    left.append(TEXTS[promise].charAt(i));
                }
            }
            Due.sentence(promise + " has no test: " + left);
            Due.is("signs left", left.toString().replace(" ", "").length(), 0);
        }
    }

    private static boolean hasDocument() {
        if (!read) {
            read = true;
            if (Files.isReadable(DOCUMENT)) {
                readDocument();
            } else {
                System.out.println(DOCUMENT + " is not there: the sentences are not compared with it");
            }
        }
        return TEXTS[0] != null;
    }

    private static void readDocument() {
        String text;
        try {
            text = Files.readString(DOCUMENT, StandardCharsets.ISO_8859_1);
        } catch (IOException unreadable) {
            throw new IllegalStateException(unreadable);
        }
        for (int promise = PROMISES; promise >= 0; promise--) {
            String head = promise == 0 ? "## Terms" : "## Promise " + promise + ":";
            String part = text.substring(text.indexOf(head), text.indexOf(promise == 34 ? "## Not" : "## Promise "
                + (promise + 1) + ":"));
            TEXTS[promise] = promise == 0 ? terms(part) : sentences(part);
            TESTED[promise] = new boolean[TEXTS[promise].length()];
        }
    }

    /** Without the head, the marks round the paragraphs, and what the interface says (but of sheets). */
    private static String terms(String part) {
        StringBuilder kept = new StringBuilder();
        for (String line : part.split("\n")) {
            boolean ofSheets = line.contains("---- 4 sheets");
            if (ofSheets) {
                kept.append(line.substring(line.indexOf("sheets 0 .. 3"))).append(' ');
            } else if (!line.startsWith("#") && !line.startsWith("```") && !line.startsWith("Ahead of the calls")) {
                kept.append(line.replaceAll("==== \\d", "")).append(' ');
            }
        }
        return oneBlank(kept.toString());
    }

    /** Behind the line that tells the number and the call itself. */
    private static String sentences(String part) {
        String body = part.substring(part.indexOf('\n'));
        return oneBlank(body.substring(body.indexOf("`:") + 2));
    }

    private static String oneBlank(String text) {
        return text.replaceAll("\\s+", " ").trim();
    }
}
