import java.io.IOException;
import java.lang.reflect.Method;
import java.lang.reflect.Modifier;
import java.net.URL;
import java.net.URLClassLoader;
import java.nio.file.Files;
import java.nio.file.Path;
import java.util.ArrayList;
import java.util.Comparator;
import java.util.List;
import java.util.regex.Matcher;
import java.util.regex.Pattern;
import java.util.stream.Collectors;
import java.util.stream.Stream;
import javax.tools.ToolProvider;

/** README.md: what it shows of calls is what the class answers, and it names every call and every test. */
public final class ReadmeTest {
    private static final Due DUE = new Due();
    private static final Pattern BLOCK = Pattern.compile("(?s)```java\n(.*?)```");
    private static final Pattern SHOWN =
            Pattern.compile("(x\\.\\w+\\(.*\\)); +// (-?\\d+|true|false|NoSuchElementException)\\b.*");

    private static final List<String> CALLS = new ArrayList<>();
    private static final List<String> ANSWERS = new ArrayList<>();

    public static void main(String[] args) throws Exception {
        String readme = Files.readString(Path.of("README.md"));
        Path made = Files.createTempDirectory("readme");
        try {
            answersAreAsShown(answersOf(source(readme), made));
        } finally {
            remove(made);
        }
        namesEveryCall(readme);
        namesEveryTest(readme);
        DUE.close("ReadmeTest");
    }

    /** All blocks as one class: a method of their own if they begin so, else lines of one that notes the answers. */
    private static String source(String readme) {
        StringBuilder members = new StringBuilder();
        StringBuilder lines = new StringBuilder();
        Matcher block = BLOCK.matcher(readme);
        while (block.find()) {
            if (block.group(1).startsWith("static ")) {
                members.append(block.group(1));
            } else {
                block.group(1).lines().forEach(line -> lines.append(noted(line)).append('\n'));
            }
        }
        return "public final class Shown {\n" + members
                + "public static java.util.List<String> answers() {\n"
                + "java.util.List<String> answers = new java.util.ArrayList<>();\n"
                + lines + "return answers;\n}\n}\n";
    }

    private static String noted(String line) {
        Matcher shown = SHOWN.matcher(line);
        if (!shown.matches()) {
            DUE.is("README: a call without its answer: " + line, line.startsWith("x."), false);
            return line;
        }
        CALLS.add(shown.group(1));
        ANSWERS.add(shown.group(2));
        return "try { answers.add(String.valueOf(" + shown.group(1) + ")); }"
                + " catch (java.util.NoSuchElementException e) { answers.add(\"NoSuchElementException\"); }";
    }

    private static List<?> answersOf(String source, Path made) throws Exception {
        Path file = made.resolve("Shown.java");
        Files.writeString(file, source);
        String classes = System.getProperty("java.class.path");
        int fault = ToolProvider.getSystemJavaCompiler().run(null, null, null,
                "-nowarn", "-d", made.toString(), "-cp", classes, file.toString());
        DUE.is("README: its Java can be compiled", fault, 0);
        if (fault != 0) {
            return List.of();
        }
        try (URLClassLoader loader = new URLClassLoader(new URL[] {made.toUri().toURL()})) {
            return (List<?>) loader.loadClass("Shown").getMethod("answers").invoke(null);
        }
    }

    private static void answersAreAsShown(List<?> answers) {
        DUE.is("README: it shows calls", CALLS.size() > 0, true);
        DUE.is("README: answers", answers.size(), CALLS.size());
        for (int k = 0; k < answers.size(); k++) {
            String what = "README: " + CALLS.get(k) + " answers " + answers.get(k) + ", shown is " + ANSWERS.get(k);
            DUE.is(what, ANSWERS.get(k).equals(answers.get(k)), true);
        }
    }

    private static void namesEveryCall(String readme) {
        for (Method m : FinedBySight.class.getDeclaredMethods()) {
            if (Modifier.isPublic(m.getModifiers())) {
                DUE.is("README: names " + m.getName(), readme.contains("`" + m.getName() + "`"), true);
            }
        }
    }

    private static void namesEveryTest(String readme) throws IOException {
        try (Stream<Path> files = Files.list(Path.of("src/test/java"))) {
            for (Path file : files.collect(Collectors.toList())) {
                String name = file.getFileName().toString().replace(".java", "");
                boolean test = name.endsWith("Test");
                DUE.is("README: names " + name, !test || readme.contains("`" + name + "`"), true);
            }
        }
        Matcher named = Pattern.compile("`(\\w+Test)`").matcher(readme);
        while (named.find()) {
            boolean there = Files.exists(Path.of("src/test/java", named.group(1) + ".java"));
            DUE.is("README: there is " + named.group(1), there, true);
        }
    }

    private static void remove(Path made) throws IOException {
        try (Stream<Path> files = Files.walk(made)) {
            for (Path file : files.sorted(Comparator.reverseOrder()).collect(Collectors.toList())) {
                Files.delete(file);
            }
        }
    }
}
