import java.io.IOException;
import java.lang.reflect.Constructor;
import java.lang.reflect.Field;
import java.lang.reflect.Method;
import java.lang.reflect.Modifier;
import java.nio.file.Files;
import java.nio.file.Path;
import java.util.Arrays;
import java.util.HashSet;
import java.util.List;
import java.util.Set;
import java.util.TreeSet;
import java.util.regex.Pattern;

/** The face of the class, and those rules of LANGUAGE.md that can be looked up in its text. */
public final class LanguageTest {
    private static final Set<String> FACE = new TreeSet<>(List.of("place 2", "tide 3", "rain 2", "way 3", "man 4",
            "join 1", "leave 1", "gone 1", "about 2", "turn 2", "dice 3", "feed 5", "end 1", "law 3", "inForce 4",
            "says 4", "load 4", "whose 1", "why 2", "send 2", "off 1", "fall 3", "told 2", "gang 2", "minutes 1",
            "judged 4", "rates 3", "foretold 1", "fund 2", "count 1"));

    public static void main(String[] args) throws IOException {
        face();
        nested();
        text();
        Check.finish();
    }

    private static void holds(String rule, boolean is) {
        Check.due(rule, is ? 1 : 0, 1);
    }

    private static void face() {
        Class<?> face = PorterTurns.class;
        holds("public and final", Modifier.isPublic(face.getModifiers()) && Modifier.isFinal(face.getModifiers()));
        Set<String> open = new TreeSet<>();
        for (Method m : face.getDeclaredMethods()) {
            if (!Modifier.isPrivate(m.getModifiers())) {
                open.add(m.getName() + " " + m.getParameterCount());
                holds(m + " is an int of ints", m.getReturnType() == int.class && Modifier.isPublic(m.getModifiers())
                        && !Modifier.isStatic(m.getModifiers())
                        && Arrays.stream(m.getParameterTypes()).allMatch(p -> p == int.class));
            }
        }
        holds("the methods are those of the document", open.equals(FACE));
        Set<String> constants = new TreeSet<>();
        for (Field f : face.getDeclaredFields()) {
            if (!Modifier.isPrivate(f.getModifiers())) {
                constants.add(f.getName());
            }
        }
        holds("the constants are those of the document", constants.equals(Set.of("BAD", "NOT", "FULL", "VOID")));
        Constructor<?>[] made = face.getDeclaredConstructors();
        holds("one constructor", made.length == 1 && Modifier.isPublic(made[0].getModifiers())
                && made[0].getParameterCount() == 0);
    }

    private static void nested() {
        Set<String> names = new HashSet<>();
        FACE.forEach(m -> names.add(m.split(" ")[0]));
        Class<?>[] inside = PorterTurns.class.getDeclaredClasses();
        holds("some twelve classes", inside.length <= 12);
        for (Class<?> c : inside) {
            holds(c + " is static", Modifier.isStatic(c.getModifiers()));
            for (Method m : c.getDeclaredMethods()) {
                holds(m + " bears no public method's name", !names.contains(m.getName()));
            }
            holds(c + " has some twenty fields", Arrays.stream(c.getDeclaredFields())
                    .filter(f -> !Modifier.isStatic(f.getModifiers())).count() <= 20);
        }
        for (Method m : PorterTurns.class.getDeclaredMethods()) {
            holds(m + " bears no public method's name",
                    !Modifier.isPrivate(m.getModifiers()) || !names.contains(m.getName()));
        }
    }

    private static void text() throws IOException {
        String source = Files.readString(Path.of("src/main/java/PorterTurns.java"));
        String code = Pattern.compile("/\\*.*?\\*/|//[^\n]*", Pattern.DOTALL).matcher(source).replaceAll("");
        holds("characters 1 to 127", source.chars().allMatch(c -> c > 0 && c < 128));
        for (String word : new String[] {"throw", "throws", "try", "catch", "finally", "synchronized", "assert",
            "package", "System\\.(?!arraycopy)", "Object", "HashMap", "Exact\\(", "Random", "Thread", "->", "::",
            "static \\{", "\\(Integer\\)", "String\\.", "@"}) {
            String pattern = word.matches("[a-zA-Z]+") ? "\\b" + word + "\\b" : word;
            holds("no " + word, !Pattern.compile(pattern).matcher(code).find());
        }
        for (String line : source.split("\n")) {
            holds("import: " + line, !line.startsWith("import ")
                    || line.equals("import java.util.ArrayList;") || line.equals("import java.util.Arrays;"));
        }
        methodsAreShort(code);
    }

    private static void methodsAreShort(String code) {
        String[] lines = code.split("\n");
        int start = -1;
        String indent = "";
        for (int i = 0; i < lines.length; i++) {
            if (start < 0 && lines[i].matches(" +[^=;]*\\(.*\\) \\{") && !lines[i].matches(" +(if|for|while|switch|\\}).*")) {
                start = i;
                indent = lines[i].replaceAll("\\S.*", "");
            } else if (start >= 0 && lines[i].equals(indent + "}")) {
                holds("a short method: " + lines[start].trim(), i - start < 60);
                start = -1;
            }
        }
    }
}
