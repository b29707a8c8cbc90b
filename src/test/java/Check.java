import java.nio.charset.StandardCharsets;

/** What the tests of the project share: a count of wrong answers, and texts put on THE TAPE. */
final class Check {
    private static int wrong = 0;
    private static int asked = 0;

    private Check() {
    }

    static void due(String call, long got, long want) {
        asked++;
        if (got != want) {
            wrong++;
            System.out.println(call + " answered " + got + ", due is " + want);
        }
    }

    static void finish() {
        System.out.println(asked + " answers, " + wrong + " of them not as due");
        if (wrong != 0) {
            System.exit(1);
        }
    }

    /** Makes the text all that is on THE TAPE; the answer of the last call. */
    static int tape(PorterTurns x, String text) {
        byte[] bytes = text.getBytes(StandardCharsets.ISO_8859_1);
        x.end(0);
        for (int from = 0; from < bytes.length; from += 20) {
            x.feed(four(bytes, from), four(bytes, from + 4), four(bytes, from + 8), four(bytes, from + 12),
                    four(bytes, from + 16));
        }
        return x.end(bytes.length);
    }

    static int law(PorterTurns x, int fellowship, int use, int from, String text) {
        tape(x, text);
        return x.law(fellowship, use, from);
    }

    static int four(byte[] bytes, int from) {
        int four = 0;
        for (int i = from; i < from + 4; i++) {
            four = four << 8 | (i < bytes.length ? bytes[i] & 255 : 32);
        }
        return four;
    }

    /** Lets many MINUTES go by. */
    static void pass(PorterTurns x, int minutes) {
        for (int left = minutes; left > 0; left -= 600) {
            x.minutes(Math.min(left, 600));
        }
    }
}
