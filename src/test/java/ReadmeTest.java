import java.io.ByteArrayOutputStream;
import java.io.IOException;
import java.io.PrintStream;
import java.lang.reflect.Method;
import java.lang.reflect.Modifier;
import java.nio.charset.StandardCharsets;
import java.nio.file.Files;
import java.nio.file.Path;
import java.util.Set;
import java.util.TreeSet;
import java.util.regex.Matcher;
import java.util.regex.Pattern;
import java.util.stream.Stream;

/** What README.md shows of the class and of its tests holds. */
public final class ReadmeTest {
    private static final Path TESTS = Path.of("src/test/java");

    public static void main(String[] args) throws IOException {
        String readme = Files.readString(Path.of("README.md"));
        program(readme);
        filesInCommands(readme);
        calls(readme);
        classes(readme);
        tests(readme);
        Expect.end();
    }

    /** The text of the only block of its kind that has a word in it. */
    private static String block(String readme, String kind, String word) {
        Matcher blocks = Pattern.compile("(?ms)^```" + kind + "\n(.*?)^```$").matcher(readme);
        String found = "";
        int many = 0;
        while (blocks.find()) {
            if (blocks.group(1).contains(word)) {
                found = blocks.group(1);
                many++;
            }
        }
        Expect.same("blocks " + kind + " with " + word, 1, many);
        return found;
    }

    private static String section(String readme, String title) {
        int from = readme.indexOf("\n## " + title + "\n");
        Expect.yes("there is a section " + title, from >= 0);
        int to = readme.indexOf("\n## ", from + 1);
        return from < 0 ? "" : readme.substring(from, to < 0 ? readme.length() : to);
    }

    private static void program(String readme) throws IOException {
        String source = Files.readString(TESTS.resolve("Example.java"));
        String due = source.substring(source.indexOf("public final class Example"));
        Expect.same("the program", due, block(readme, "java", "class Example"));
        Expect.same("what it prints", block(readme, "text", "compile"), printedByExample());
    }

    private static String printedByExample() {
        PrintStream before = System.out;
        ByteArrayOutputStream bytes = new ByteArrayOutputStream();
        try (PrintStream caught = new PrintStream(bytes, true, StandardCharsets.ISO_8859_1)) {
            System.setOut(caught);
            Example.main(new String[0]);
        } finally {
            System.setOut(before);
        }
        return bytes.toString(StandardCharsets.ISO_8859_1).replace(System.lineSeparator(), "\n");
    }

    private static void filesInCommands(String readme) {
        String commands = block(readme, "sh", "javac") + block(readme, "sh", ".ci/run");
        int many = 0;
        for (String word : commands.split("\\s+")) {
            if (word.startsWith("src/") || word.startsWith(".ci/")) {
                many++;
                Expect.yes(word + " is a file", Files.isRegularFile(Path.of(word)));
            }
        }
        Expect.same("files in commands", 3, many);
    }

    /** The names that stand in the first column of a section's tables, up to an opening bracket. */
    private static Set<String> firstColumn(String section) {
        Set<String> names = new TreeSet<>();
        for (String line : section.split("\n")) {
            if (line.startsWith("| `")) {
                Matcher name = Pattern.compile("`(\\w+)[^`]*`").matcher(line.split("\\|")[1]);
                while (name.find()) {
                    names.add(name.group(1));
                }
            }
        }
        return names;
    }

    private static void calls(String readme) {
        Set<String> due = new TreeSet<>();
        String use = section(readme, "Use");
        for (Method method : ProtoDesk.class.getDeclaredMethods()) {
            if (Modifier.isPublic(method.getModifiers())) {
                due.add(method.getName());
                throwsAreTold(use, method);
            }
        }
        Expect.same("the calls", due.toString(), firstColumn(use).toString());
    }

    private static void throwsAreTold(String use, Method method) {
        for (String line : use.split("\n")) {
            if (line.startsWith("| `" + method.getName() + "(")) {
                String[] columns = line.split("\\|");
                String told = columns[columns.length - 1];
                int parameters = columns[1].contains("()") ? 0 : columns[1].split(",").length;
                Expect.same(method + "'s parameters", method.getParameterCount(), parameters);
                for (Class<?> thrown : method.getExceptionTypes()) {
                    Expect.yes(method + " is told to throw " + thrown.getSimpleName(),
                            told.contains(thrown.getSimpleName()) || told.strip().equals("likewise"));
                }
            }
        }
    }

    private static void classes(String readme) {
        Set<String> due = new TreeSet<>();
        for (Class<?> inside : ProtoDesk.class.getDeclaredClasses()) {
            due.add(inside.getSimpleName());
        }
        Expect.same("the classes", due.toString(), firstColumn(section(readme, "How it is built")).toString());
    }

    private static void tests(String readme) throws IOException {
        String section = section(readme, "Tests");
        Set<String> due = new TreeSet<>();
        try (Stream<Path> files = Files.list(TESTS)) {
            for (Path file : files.toList()) {
                String name = file.getFileName().toString().replace(".java", "");
                Expect.yes(name + " is told", section.contains("`" + name + "`"));
                if (name.endsWith("Test")) {
                    due.add(name);
                }
            }
        }
        Expect.same("the tests", due.toString(), firstColumn(section).toString());
    }
}
