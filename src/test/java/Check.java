import java.io.IOException;
import java.nio.charset.StandardCharsets;
import java.nio.file.Files;
import java.nio.file.Path;
import java.util.BitSet;
import java.util.Set;
import java.util.TreeSet;
import java.util.regex.Matcher;
import java.util.regex.Pattern;

/** What the tests of the project share: a count of wrong answers, and texts put on THE TAPE. */
final class Check {
    private static final Path DOCUMENT = Path.of("../shared/DOC.md");

    private static int wrong = 0;
    private static int asked = 0;
    private static String heading = "";
    private static final Set<Integer> PROMISES = new TreeSet<>();
    /** Each sentence once for each promise, however often it was held. */
    private static final Set<String> SENTENCES = new TreeSet<>();
    private static final String WORDS = wordsOfTheDocument();

    private Check() {
    }

    static void due(String call, long got, long want) {
        asked++;
        if (got != want) {
            wrong++;
            System.out.println(heading + call + " answered " + got + ", due is " + want);
        }
    }

    /** What is asked from here on is held against this sentence, which must stand in the document as it is quoted. */
    static void sentence(int promise, String quoted) {
        SENTENCES.add(promise + " " + quoted);
        PROMISES.add(promise);
        heading = "";
        due("'" + quoted + "' stands in the document", WORDS.isEmpty() || WORDS.contains(quoted) ? 1 : 0, 1);
        heading = "promise " + promise + ", '" + quoted + "': ";
    }

    /** That a sentence was held of each promise. */
    static void allPromisesNamed() {
        heading = "";
        for (int promise = 1; promise <= 31; promise++) {
            due("a sentence of promise " + promise, PROMISES.contains(promise) ? 1 : 0, 1);
        }
    }

    /** That no words between the document's first rule and its last promise stand outside all sentences held. */
    static void allWordsHeld() {
        heading = "";
        if (WORDS.isEmpty()) {
            return;
        }
        BitSet held = new BitSet(WORDS.length());
        held.set(0, WORDS.indexOf("MINUTE is a count"));
        held.set(WORDS.indexOf("## Not promised"), WORDS.length());
        // The face is LanguageTest's; what the interface says ahead of calls, and headings, promise nothing.
        markAll(held, "An object is used for at most 512 calls.*## Terms");
        markAll(held, "Ahead of the calls .*? the interface says: ---- [a-z -]+\\.");
        markAll(held, "## Promise \\d+: [A-Za-z ]+`[^`]+`:");
        markAll(held, "```(text)?|======== \\d");
        for (String sentence : SENTENCES) {
            markAll(held, Pattern.quote(sentence.substring(sentence.indexOf(' ') + 1)));
        }
        Matcher word = Pattern.compile("[A-Za-z0-9]+").matcher(WORDS);
        while (word.find()) {
            if (!held.get(word.start())) {
                due("a sentence with the word '" + word.group() + "' of '"
                        + WORDS.substring(Math.max(0, word.start() - 30), word.end()) + "'", 0, 1);
            }
        }
    }

    private static void markAll(BitSet held, String pattern) {
        Matcher found = Pattern.compile(pattern).matcher(WORDS);
        while (found.find()) {
            held.set(found.start(), found.end());
        }
    }

    static void finish() {
        System.out.println((SENTENCES.isEmpty() ? "" : SENTENCES.size() + " sentences, ") + asked + " answers, " + wrong
                + " of them not as due");
        if (wrong != 0) {
            System.exit(1);
        }
    }

    /** One blank for each gap; empty where the document is not at hand: then quotes are not looked up. */
    private static String wordsOfTheDocument() {
        try {
            return Files.exists(DOCUMENT) ? Files.readString(DOCUMENT).replaceAll("\\s+", " ") : "";
        } catch (IOException unreadable) {
            return "";
        }
    }

    /** Makes the text all that is on THE TAPE; the answer of the last call. */
    static int tape(PorterTurns x, String text) {
        byte[] bytes = text.getBytes(StandardCharsets.ISO_8859_1);
        x.end(0);
        for (int from = 0; from < bytes.length; from += 20) {
            x.feed(four(bytes, from), four(bytes, from + 4), four(bytes, from + 8), four(bytes, from + 12),
                    four(bytes, from + 16));
        }
        return x.end(bytes.length);
    }

    static int law(PorterTurns x, int fellowship, int use, int from, String text) {
        tape(x, text);
        return x.law(fellowship, use, from);
    }

    static int four(byte[] bytes, int from) {
        int four = 0;
        for (int i = from; i < from + 4; i++) {
            four = four << 8 | (i < bytes.length ? bytes[i] & 255 : 32);
        }
        return four;
    }

    /** Lets many MINUTES go by. */
    static void pass(PorterTurns x, int minutes) {
        for (int left = minutes; left > 0; left -= 600) {
            x.minutes(Math.min(left, 600));
        }
    }

    /** Lets MINUTES go by up to one. */
    static void passTo(PorterTurns x, int minute) {
        pass(x, minute - x.count(4));
    }
}
