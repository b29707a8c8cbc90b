import java.util.Random;

/** Texts by the grammar, and texts with something wrong in them. */
final class RandomTexts {
    private static final String[] NAMES = {"kind", "weight", "far", "up", "value", "hour", "rain", "late", "men", "day",
        "age", "strength", "worked"};
    private static final String[] TOKENS = {"kind", "weight", "men", "if", "or", "and", "not", "min", "max", "(", ")",
        ",", ";", "<", "=", ">", "+", "-", "*", "/", "1", "99999", "123456", "00007", "iff", "no", "mi", "n", ".", "!",
        "A", ":", "?", "'", "\u0000", "\u00ff", "\t", "%", "\n"};

    private final Random random;

    RandomTexts(Random random) {
        this.random = random;
    }

    /** A sound text of at most 200 bytes. */
    String sound() {
        for (int tries = 0; tries < 1000; tries++) {
            StringBuilder out = new StringBuilder(rule());
            for (int more = random.nextInt(3); more > 0; more--) {
                out.append(blank()).append(';').append(blank()).append(rule());
            }
            if (out.length() <= 200) {
                return out.toString();
            }
        }
        return "1";
    }

    /** A text that is often not sound. */
    String doubtful() {
        int form = random.nextInt(4);
        if (form == 0) {
            StringBuilder out = new StringBuilder();
            for (int n = random.nextInt(12); n > 0; n--) {
                out.append(TOKENS[random.nextInt(TOKENS.length)]).append(random.nextInt(3) == 0 ? "" : " ");
            }
            return out.toString();
        }
        StringBuilder out = new StringBuilder(form == 1 ? nested() : sound());
        for (int n = random.nextInt(2) + 1; n > 0 && out.length() > 0; n--) {
            int at = random.nextInt(out.length());
            switch (random.nextInt(3)) {
                case 0: out.deleteCharAt(at); break;
                case 1: out.setLength(at); break;
                default: out.insert(at, TOKENS[random.nextInt(TOKENS.length)]); break;
            }
        }
        out.setLength(Math.min(out.length(), 200));
        return out.toString();
    }

    /** A text with about 12 of ( and not open within one another. */
    String nested() {
        StringBuilder out = new StringBuilder("1 if ");
        StringBuilder close = new StringBuilder();
        boolean sum = false;
        for (int n = 9 + random.nextInt(6); n > 0; n--) {
            switch (random.nextInt(sum ? 2 : 3)) {
                case 0: out.append("("); close.insert(0, ")"); sum = false; break;
                case 1: out.append("min("); close.insert(0, ",2)"); sum = true; break;
                default: out.append("not "); break;
            }
        }
        return out.append(NAMES[random.nextInt(NAMES.length)]).append(close).toString();
    }

    private String blank() {
        return " ".repeat(random.nextInt(3) == 0 ? random.nextInt(3) : 0);
    }

    private String rule() {
        return random.nextInt(3) == 0 ? relation(3) : relation(2) + " if " + any(3);
    }

    private String any(int deep) {
        String out = all(deep);
        for (int more = random.nextInt(3); more > 1; more--) {
            out += " or " + all(deep);
        }
        return out;
    }

    private String all(int deep) {
        String out = negated(deep);
        for (int more = random.nextInt(3); more > 1; more--) {
            out += " and " + negated(deep);
        }
        return out;
    }

    private String negated(int deep) {
        return random.nextInt(5) == 0 ? "not " + negated(deep) : relation(deep);
    }

    private String relation(int deep) {
        String sign = new String[] {"<", "=", ">"}[random.nextInt(3)];
        return random.nextInt(2) == 0 ? sum(deep) : sum(deep) + blank() + sign + blank() + sum(deep);
    }

    private String sum(int deep) {
        String out = product(deep);
        for (int more = random.nextInt(4); more > 1; more--) {
            out += blank() + (random.nextBoolean() ? "+" : "-") + blank() + product(deep);
        }
        return out;
    }

    private String product(int deep) {
        String out = operand(deep);
        for (int more = random.nextInt(4); more > 1; more--) {
            out += blank() + (random.nextBoolean() ? "*" : "/") + blank() + operand(deep);
        }
        return out;
    }

    private String operand(int deep) {
        int form = random.nextInt(deep > 0 ? 8 : 6);
        if (form < 3) {
            return Integer.toString(random.nextInt(random.nextBoolean() ? 100000 : 12));
        }
        if (form < 6) {
            return NAMES[random.nextInt(NAMES.length)];
        }
        if (form == 6) {
            return "(" + blank() + any(deep - 1) + blank() + ")";
        }
        return (random.nextBoolean() ? "min" : "max") + blank() + "(" + relation(deep - 1) + "," + blank()
                + relation(deep - 1) + ")";
    }
}
