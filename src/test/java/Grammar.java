import java.util.ArrayList;
import java.util.HashMap;
import java.util.LinkedHashSet;
import java.util.List;
import java.util.Map;
import java.util.regex.Matcher;
import java.util.regex.Pattern;

/**
 * The document's grammar written out as productions and read by Earley's way, which knows after each token whether
 * a TEXT can go on: another road to the FAULT than the class takes. Each part is there once for each count of
 * ( and not that are open around it.
 */
final class Grammar {
    private static final String NAMES = " kind weight far up value hour rain late men day age strength worked ";
    private static final String KEYS = " if or and not min max ";
    private static final Pattern TOKEN = Pattern.compile("[a-z]+|[0-9]+|[^ ]", Pattern.DOTALL);

    private final Map<String, List<String[]>> rules = new HashMap<>();

    private record Item(String head, String[] body, int dot, int origin) {
        @Override public boolean equals(Object other) {
            return other instanceof Item i && i.head.equals(head) && i.body == body && i.dot == dot
                    && i.origin == origin;
        }

        @Override public int hashCode() {
            return head.hashCode() * 31 * 31 + System.identityHashCode(body) * 31 + dot * 7 + origin;
        }
    }

    Grammar() {
        add("T", "R", "T ; R");
        add("R", "E0", "E0 if Q0");
        for (int d = 0; d <= 12; d++) {
            String in = Integer.toString(d + 1);
            add("Q" + d, "A" + d, "Q" + d + " or A" + d);
            add("A" + d, "B" + d, "A" + d + " and B" + d);
            add("B" + d, "E" + d);
            add("E" + d, "S" + d, "S" + d + " < S" + d, "S" + d + " = S" + d, "S" + d + " > S" + d);
            add("S" + d, "P" + d, "S" + d + " + P" + d, "S" + d + " - P" + d);
            add("P" + d, "O" + d, "P" + d + " * O" + d, "P" + d + " / O" + d);
            add("O" + d, "number", "name");
            if (d < 12) {
                add("B" + d, "not B" + in);
                add("O" + d, "( Q" + in + " )", "min ( E" + in + " , E" + in + " )",
                        "max ( E" + in + " , E" + in + " )");
            } else {
                // The word itself may stand there; its ( would be the 13th.
                add("O" + d, "min nothing", "max nothing");
            }
        }
    }

    private void add(String head, String... bodies) {
        for (String body : bodies) {
            rules.computeIfAbsent(head, h -> new ArrayList<>()).add(body.split(" "));
        }
    }

    /** The FAULT of a text of bytes, or -1. */
    int fault(String text) {
        List<LinkedHashSet<Item>> chart = new ArrayList<>();
        chart.add(new LinkedHashSet<>());
        for (String[] body : rules.get("T")) {
            chart.get(0).add(new Item("T", body, 0, 0));
        }
        close(chart);
        Matcher m = TOKEN.matcher(text);
        while (m.find()) {
            LinkedHashSet<Item> next = new LinkedHashSet<>();
            for (Item i : chart.get(chart.size() - 1)) {
                if (i.dot < i.body.length && i.body[i.dot].equals(terminal(m.group()))) {
                    next.add(new Item(i.head, i.body, i.dot + 1, i.origin));
                }
            }
            if (next.isEmpty()) {
                return m.start();
            }
            chart.add(next);
            close(chart);
        }
        for (Item i : chart.get(chart.size() - 1)) {
            if (i.head.equals("T") && i.dot == i.body.length && i.origin == 0) {
                return -1;
            }
        }
        return text.length();
    }

    private static String terminal(String token) {
        char first = token.charAt(0);
        if (first >= '0' && first <= '9') {
            return token.length() <= 5 ? "number" : "strange";
        }
        if (first >= 'a' && first <= 'z') {
            return NAMES.contains(" " + token + " ") ? "name" : KEYS.contains(" " + token + " ") ? token : "strange";
        }
        return token;
    }

    private void close(List<LinkedHashSet<Item>> chart) {
        int here = chart.size() - 1;
        List<Item> open = new ArrayList<>(chart.get(here));
        for (int n = 0; n < open.size(); n++) {
            Item i = open.get(n);
            List<Item> found = new ArrayList<>();
            if (i.dot < i.body.length) {
                for (String[] body : rules.getOrDefault(i.body[i.dot], List.of())) {
                    found.add(new Item(i.body[i.dot], body, 0, here));
                }
            } else {
                for (Item up : chart.get(i.origin)) {
                    if (up.dot < up.body.length && up.body[up.dot].equals(i.head)) {
                        found.add(new Item(up.head, up.body, up.dot + 1, up.origin));
                    }
                }
            }
            for (Item f : found) {
                if (chart.get(here).add(f)) {
                    open.add(f);
                }
            }
        }
    }
}
