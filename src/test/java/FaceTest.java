import java.io.IOException;
import java.lang.reflect.Constructor;
import java.lang.reflect.Field;
import java.lang.reflect.Method;
import java.lang.reflect.Modifier;
import java.nio.file.Files;
import java.nio.file.Path;
import java.util.Arrays;
import java.util.List;
import java.util.TreeSet;
import java.util.regex.Matcher;
import java.util.regex.Pattern;

/** The public face, as the document writes it, and what of LANGUAGE.md can be read off the class and its text. */
public final class FaceTest {
    private static final Due DUE = new Due();
    private static final String[] FACE = {"sign 1", "end 1", "town 0", "fog 0", "rule 0", "yard 1", "lamp 2", "err 1",
        "thick 1", "sheet 4", "rope 2", "unrope 0", "lit 1", "sees 3", "owed 3", "seen 3", "dearest 2", "light 2",
        "needs 3", "walk 4", "drop 1", "at 2", "bill 1", "saw 1", "dims 1", "adopt 5", "hidden 3", "hit 2", "brush 2",
        "hits 0", "takings 1", "fee 1", "way 2", "cheapest 5", "safe 4", "buys 5", "reach 4", "tour 5", "bears 3",
        "waits 4", "chance 5", "likely 1", "mean 5", "best 4", "meet 5", "lead 5", "keep 1", "again 1", "count 1",
        "row 1"};
    private static final String[] NOT_WRITTEN = {"Exact(", "->", "::", "finally", "synchronized", "assert",
        "import static", "System.out",
        "Math.random", "getMessage", "hashCode", "currentTimeMillis", "nanoTime"};
    // What the machine throws, and the classes above these: a call may not be answered by catching them.
    private static final String[] NOT_CAUGHT = {"Throwable", "Exception", "RuntimeException",
        "IndexOutOfBoundsException", "ArrayIndexOutOfBoundsException", "StringIndexOutOfBoundsException",
        "NullPointerException", "ArithmeticException", "ClassCastException", "NegativeArraySizeException",
        "ArrayStoreException", "Error", "StackOverflowError", "OutOfMemoryError"};

    // Rule 4, as far as the class uses it: static functions of the library.
    private static final String[] LIBRARY = {"Math.max", "Math.min", "Long.bitCount", "Integer.bitCount",
        "System.arraycopy"};

    public static void main(String[] args) throws IOException {
        face();
        faceAsWritten();
        for (Class<?> c : all()) {
            shape(c);
        }
        DUE.is("rule 11: at most some twelve classes", all().length <= 13, true);
        text();
        DUE.close("FaceTest");
    }

    private static Class<?>[] all() {
        Class<?>[] inside = FinedBySight.class.getDeclaredClasses();
        Class<?>[] all = Arrays.copyOf(inside, inside.length + 1);
        all[inside.length] = FinedBySight.class;
        return all;
    }

    private static void face() {
        TreeSet<String> due = new TreeSet<>(Arrays.asList(FACE));
        TreeSet<String> got = new TreeSet<>();
        for (Method m : FinedBySight.class.getDeclaredMethods()) {
            if (Modifier.isPublic(m.getModifiers())) {
                got.add(m.getName() + " " + m.getParameterCount());
                String type = m.getReturnType().getName();
                boolean yesNo = Arrays.asList("end", "drop", "keep", "again").contains(m.getName());
                String wanted = yesNo ? "boolean" : m.getName().equals("row") ? "long" : "int";
                DUE.is("the type of " + m.getName(), type.equals(wanted), true);
            } else {
                DUE.is("rule 1: private " + m.getName(), Modifier.isPrivate(m.getModifiers()), true);
            }
        }
        DUE.is("the face " + got, got.equals(due), true);
        DUE.is("NONE", FinedBySight.NONE, -1);
        DUE.is("final", Modifier.isFinal(FinedBySight.class.getModifiers()), true);
        for (Field f : FinedBySight.class.getDeclaredFields()) {
            boolean shown = f.getName().equals("NONE");
            DUE.is("rule 1: " + f.getName(), shown || Modifier.isPrivate(f.getModifiers()), true);
        }
        Constructor<?>[] made = FinedBySight.class.getDeclaredConstructors();
        DUE.is("one constructor", made.length, 1);
        DUE.is("without arguments", made[0].getParameterCount(), 0);
    }

    /** Each line of the face stands in the class as the document writes it, and no other public one does. */
    private static void faceAsWritten() throws IOException {
        String document = Files.readString(Path.of("../shared/DOC.md"));
        String begin = "```java\n";
        int from = document.indexOf(begin) + begin.length();
        String[] lines = document.substring(from, document.indexOf("```", from)).split("\n");
        List<String> code = Files.readAllLines(Path.of("src/main/java/FinedBySight.java"));
        int written = 0;
        for (String line : lines) {
            boolean method = line.contains("(");
            String due = method ? line.substring(0, line.length() - 1) + " {" : line;
            DUE.is("the face: " + line, due.equals("}") || due.isEmpty() || code.contains(due), true);
            written += due.contains("public ") ? 1 : 0;
        }
        long shown = code.stream().filter(line -> line.contains("public ")).count();
        DUE.is("the face: public lines", shown, written);
        DUE.is("the face: calls", written, FACE.length + 3);
    }

    private static void shape(Class<?> c) {
        int fields = 0;
        for (Field f : c.getDeclaredFields()) {
            boolean isStatic = Modifier.isStatic(f.getModifiers());
            fields += isStatic ? 0 : 1;
            DUE.is("rule 5: " + f, !isStatic || Modifier.isFinal(f.getModifiers()), true);
        }
        DUE.is("rule 11: fields of " + c.getName() + " " + fields, fields <= 20, true);
        if (c != FinedBySight.class) {
            DUE.is("rule 1: static " + c.getName(), Modifier.isStatic(c.getModifiers()), true);
        }
        for (Method m : c.getDeclaredMethods()) {
            DUE.is("rule 11: parameters of " + m, m.getParameterCount() <= 7, true);
            boolean named = Arrays.asList(FACE).stream().anyMatch(f -> f.startsWith(m.getName() + " "));
            DUE.is("rule 1: the name of " + m, !named || Modifier.isPublic(m.getModifiers()), true);
        }
    }

    private static void text() throws IOException {
        String text = Files.readString(Path.of("src/main/java/FinedBySight.java"));
        String code = text.replaceAll("(?s)/\\*.*?\\*/", "").replaceAll("//[^\n]*", "");
        for (String word : NOT_WRITTEN) {
            boolean letters = word.matches("[a-z]+");
            boolean found = letters ? code.matches("(?s).*\\b" + word + "\\b.*") : code.contains(word);
            DUE.is("LANGUAGE.md: " + word, found, false);
        }
        for (String word : NOT_CAUGHT) {
            DUE.is("catches " + word, code.matches("(?s).*catch *\\([^)]*\\b" + word + "\\b[^)]*\\).*"), false);
        }
        DUE.is("one import", code.split("\\bimport\\b").length - 1, 1);
        DUE.is("no package", code.matches("(?s).*\\bpackage\\b.*"), false);
        DUE.is("rule 4: signs 1 to 127", text.chars().allMatch(c -> c >= 1 && c <= 127), true);
        Matcher called = Pattern.compile("\\b((?:Math|Long|Integer|System|Arrays|String)\\.\\w+)\\(").matcher(code);
        while (called.find()) {
            DUE.is("rule 4: " + called.group(1), Arrays.asList(LIBRARY).contains(called.group(1)), true);
        }
        methodsAreShort(code);
    }

    private static void methodsAreShort(String code) {
        String begun = "";
        String indent = "";
        int lines = 0;
        for (String line : code.split("\n")) {
            boolean begins = line.matches(" {4}( {4})?[a-zA-Z][^=]*\\) (throws \\w+ )?\\{");
            if (begins) {
                begun = line.trim();
                indent = line.substring(0, line.length() - line.stripLeading().length());
                lines = 0;
            }
            lines++;
            if (line.equals(indent + "}")) {
                DUE.is("rule 11: sixty lines of " + begun, lines <= 60, true);
            }
        }
    }
}
