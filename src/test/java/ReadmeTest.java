import java.io.IOException;
import java.lang.reflect.Method;
import java.lang.reflect.Modifier;
import java.net.URL;
import java.net.URLClassLoader;
import java.nio.file.Files;
import java.nio.file.Path;
import java.util.ArrayList;
import java.util.List;
import java.util.regex.Matcher;
import java.util.regex.Pattern;
import java.util.stream.Collectors;
import java.util.stream.Stream;

/** README.md: its examples answer what they say, and it names each call, the tests and how to run them. */
public final class ReadmeTest {
    private static final Pattern BLOCK = Pattern.compile("```java\n(.*?)```", Pattern.DOTALL);
    private static final Pattern ANSWERED = Pattern.compile("(?m)^(x\\..*\\));\\s+// (-?\\d+).*$");

    public static void main(String[] args) throws Exception {
        String readme = Files.readString(Path.of("README.md"));
        names(readme);
        examples(readme);
        Check.finish();
    }

    private static void names(String readme) throws IOException {
        for (Method call : PorterTurns.class.getDeclaredMethods()) {
            if (Modifier.isPublic(call.getModifiers())) {
                stands(readme, "`" + call.getName() + "`");
            }
        }
        try (Stream<Path> tests = Files.list(Path.of("src/test/java"))) {
            for (Path test : tests.collect(Collectors.toList())) {
                String name = test.getFileName().toString().replace(".java", "");
                if (name.endsWith("Test")) {
                    stands(readme, "| " + name + " |");
                } else if (name.endsWith("Edges") || name.equals("PlainSentences")) {
                    stands(readme, name);
                }
            }
        }
        stands(readme, "\n    .ci/run\n");
    }

    private static void stands(String readme, String wanted) {
        Check.due("README.md says " + wanted.trim(), readme.contains(wanted) ? 1 : 0, 1);
    }

    /** Blocks that begin with static are methods, the others are statements of one run. */
    private static void examples(String readme) throws Exception {
        StringBuilder methods = new StringBuilder();
        StringBuilder run = new StringBuilder();
        Matcher blocks = BLOCK.matcher(readme);
        while (blocks.find()) {
            (blocks.group(1).startsWith("static ") ? methods : run).append(blocks.group(1));
        }
        List<String> calls = new ArrayList<>();
        List<Integer> dues = new ArrayList<>();
        String kept = ANSWERED.matcher(run).replaceAll(m -> {
            calls.add(m.group(1));
            dues.add(Integer.valueOf(m.group(2)));
            return Matcher.quoteReplacement("got.add(" + m.group(1) + ");");
        });
        Check.due("there are examples", calls.isEmpty() ? 0 : 1, 1);
        List<?> got = answers("public class Examples {\npublic static java.util.List<Integer> run() {\n"
                + "java.util.List<Integer> got = new java.util.ArrayList<>();\n" + kept + "return got;\n}\n" + methods
                + "}\n");
        for (int i = 0; i < calls.size(); i++) {
            Check.due("README.md, " + calls.get(i), i < got.size() ? (Integer) got.get(i) : Long.MIN_VALUE, dues.get(i));
        }
    }

    /** Empty if they do not compile. */
    private static List<?> answers(String source) throws Exception {
        Path room = Files.createTempDirectory("readme");
        Path file = Files.writeString(room.resolve("Examples.java"), source);
        int failed = new ProcessBuilder("javac", "--release", "17", "-cp", System.getProperty("java.class.path"), "-d",
                room.toString(), file.toString()).inheritIO().start().waitFor();
        List<?> got = List.of();
        if (failed == 0) {
            try (URLClassLoader loader = new URLClassLoader(new URL[] {room.toUri().toURL()})) {
                got = (List<?>) loader.loadClass("Examples").getMethod("run").invoke(null);
            }
        }
        for (Path left : List.of(file, room.resolve("Examples.class"), room)) {
            Files.deleteIfExists(left);
        }
        return got;
    }
}
