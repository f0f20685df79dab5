import java.io.IOException;
import java.lang.reflect.Method;
import java.lang.reflect.Modifier;
import java.nio.file.Files;
import java.nio.file.Path;
import java.nio.file.StandardCopyOption;
import java.util.ArrayList;
import java.util.Comparator;
import java.util.List;
import java.util.TreeSet;
import java.util.regex.Matcher;
import java.util.regex.Pattern;
import java.util.stream.Stream;

/**
 * What README.md shows is so: its calls are compiled and asked for their answers, and its commands are run as they stand
 * there, in a copy of the project. In that copy it is also seen that .ci/run refuses what it must.
 */
final class ReadmeTest {
    private static final Pattern BLOCK = Pattern.compile("(?ms)^```(\\w+)\n(.*?)^```$");
    private static final Pattern CALL = Pattern.compile("((?:[xy]\\.)?\\w+\\(.*\\));\\s+// (-?\\d+)(?::.*)?");
    private static final Pattern NEW = Pattern.compile("StackPrograms [xy] = new StackPrograms\\(\\);");
    private static final String CI = ".ci/run";

    private final Due due = new Due("ReadmeTest");
    private final List<String> bodies = new ArrayList<>();
    private final List<String> helpers = new ArrayList<>();
    private final List<String> commands = new ArrayList<>();
    private String readme;
    private Path folder;
    private Path copy;

    public static void main(String[] args) throws IOException, InterruptedException {
        ReadmeTest test = new ReadmeTest();
        test.folder = Files.createTempDirectory("readme");
        try {
            test.takeApart(Files.readString(Path.of("README.md")));
            test.namesAllCalls();
            test.namesAllConstants();
            test.namesAllTests();
            test.examples();
            test.copyProject();
            test.commandsWork();
            test.ciRefuses();
        } finally {
            remove(test.folder);
        }
        test.due.close();
    }

    private void takeApart(String text) {
        readme = text;
        Matcher m = BLOCK.matcher(text);
        while (m.find()) {
            if (m.group(1).equals("sh")) {
                commands.add(m.group(2));
            } else {
                due.holds("a block is java or sh: " + m.group(1), m.group(1).equals("java"));
                (m.group(2).startsWith("static ") ? helpers : bodies).add(m.group(2));
            }
        }
        due.is("blocks of calls", bodies.size(), 2);
        due.is("blocks of a method", helpers.size(), 1);
        due.is("blocks of commands", commands.size(), 3);
    }

    private void namesAllCalls() {
        for (Method m : StackPrograms.class.getDeclaredMethods()) {
            if (Modifier.isPublic(m.getModifiers())) {
                int n = m.getParameterCount();
                String row = "(?m)^\\| `" + m.getName() + "\\(" + (n == 0 ? "" : "\\w+" + ", \\w+".repeat(n - 1)) + "\\)` \\|";
                due.holds("README has a row of " + m, Pattern.compile(row).matcher(readme).find());
                due.holds("README shows a call of " + m.getName(),
                    String.join("", bodies).contains("." + m.getName() + "(") || m.getName().equals("type"));
            }
        }
    }

    private void namesAllConstants() {
        due.holds("NONE", readme.contains("| " + StackPrograms.NONE + " | `NONE` |"));
        due.holds("BAD", readme.contains("| " + StackPrograms.BAD + " | `BAD` |"));
        due.holds("FULL", readme.contains("| " + StackPrograms.FULL + " | `FULL` |"));
    }

    private void namesAllTests() throws IOException {
        TreeSet<String> there = new TreeSet<>();
        for (Path file : filesIn(Path.of("src/test/java"))) {
            String name = file.getFileName().toString();
            if (name.endsWith("Test.java")) {
                there.add(name.substring(0, name.length() - 5));
            }
        }
        TreeSet<String> named = new TreeSet<>();
        Matcher m = Pattern.compile("\\b\\w+Test\\b").matcher(readme);
        while (m.find()) {
            named.add(m.group());
        }
        due.holds("README names the tests " + there + ", and no others: " + named, named.equals(there));
    }

    /** The blocks of calls become a program, in which each call that is shown with an answer is asked for it. */
    private void examples() throws IOException, InterruptedException {
        StringBuilder code = new StringBuilder("final class Example {\nstatic int wrong;\n");
        code.append("static void due(String call, int got, int want) {\nif (got != want) {\nwrong++;\n");
        code.append("System.out.println(call + \" answered \" + got + \", shown is \" + want);\n}\n}\n");
        code.append(String.join("", helpers)).append("public static void main(String[] args) {\n");
        for (String line : String.join("", bodies).split("\n")) {
            code.append(asked(line)).append('\n');
        }
        code.append("System.exit(wrong == 0 ? 0 : 1);\n}\n}\n");
        Files.writeString(folder.resolve("Example.java"), code);
        Files.copy(Path.of("src/main/java/StackPrograms.java"), folder.resolve("StackPrograms.java"));
        works("the examples compile", folder, "javac -d example StackPrograms.java Example.java");
        works("the examples answer as shown", folder, "java -cp example Example");
    }

    private String asked(String line) {
        Matcher call = CALL.matcher(line);
        if (call.matches()) {
            return "due(\"" + call.group(1).replace("\"", "\\\"") + "\", " + call.group(1) + ", " + call.group(2) + ");";
        }
        due.holds("a call with its answer: " + line, line.isBlank() || NEW.matcher(line).matches());
        return line;
    }

    private void copyProject() throws IOException {
        copy = folder.resolve("main");
        copyTree(Path.of("src"), copy.resolve("src"));
        copyTree(Path.of(".ci"), copy.resolve(".ci"));
        copyTree(Path.of("../shared/tests"), folder.resolve("shared/tests"));
    }

    private void commandsWork() throws IOException, InterruptedException {
        for (String block : commands) {
            if (!block.contains(CI)) {
                works("works as README says: " + block, copy, block);
            }
        }
        // From here on the copy is without this test, which .ci/run would start again.
        for (Path file : filesIn(copy.resolve("src/test/java"))) {
            if (!List.of("Due.java", "FaultsTest.java").contains(file.getFileName().toString())) {
                Files.delete(file);
            }
        }
        due.is("how often " + CI, commands.stream().filter(block -> block.equals(CI + "\n")).count(), 1);
        works("works as README says: " + CI, copy, CI);
    }

    private void ciRefuses() throws IOException, InterruptedException {
        Path own = copy.resolve("src/test/java/WrongTest.java");
        Path shared = folder.resolve("shared/tests/Wrong.java");
        refused("a test of the project fails", own, test("WrongTest", "System.exit(1);"));
        refused("a test of the project throws", own, test("WrongTest", "throw new IllegalStateException();"));
        refused("a test of the project does not compile", own, test("WrongTest", "x.none();"));
        refused("a shared test fails", shared, test("Wrong", "System.exit(1);"));
        refused("a shared test does not compile", shared, test("Wrong", "x.none();"));
        Files.writeString(own, test("WrongTest", "x.clear();"));
        Files.writeString(shared, test("Wrong", "x.clear();"));
        works(CI + ": nothing is wrong any more", copy, CI);
    }

    private static String test(String name, String does) {
        return "public final class " + name + " {\n    public static void main(String[] args) {\n"
            + "        StackPrograms x = new StackPrograms();\n        x.drop();\n        " + does + "\n    }\n}\n";
    }

    private void refused(String why, Path file, String code) throws IOException, InterruptedException {
        Files.writeString(file, code);
        due.holds(CI + " refuses: " + why, run(copy, CI) != 0);
        Files.delete(file);
    }

    private void works(String what, Path where, String commandLines) throws IOException, InterruptedException {
        int code = run(where, commandLines);
        if (code != 0) {
            System.out.println(Files.readString(folder.resolve("printed")));
        }
        due.is(what, code, 0);
    }

    /** The exit code. */
    private int run(Path where, String commandLines) throws IOException, InterruptedException {
        return new ProcessBuilder("bash", "-e", "-c", commandLines).directory(where.toFile()).redirectErrorStream(true)
            .redirectOutput(folder.resolve("printed").toFile()).start().waitFor();
    }

    private static List<Path> filesIn(Path where) throws IOException {
        try (Stream<Path> files = Files.list(where)) {
            return files.sorted().toList();
        }
    }

    private static void copyTree(Path from, Path to) throws IOException {
        Files.createDirectories(to.getParent());
        try (Stream<Path> files = Files.walk(from)) {
            for (Path file : files.toList()) {
                Path target = to.resolve(from.relativize(file).toString());
                if (Files.isDirectory(file)) {
                    Files.createDirectories(target);
                } else {
                    Files.copy(file, target, StandardCopyOption.COPY_ATTRIBUTES);
                }
            }
        }
    }

    private static void remove(Path from) throws IOException {
        try (Stream<Path> files = Files.walk(from)) {
            for (Path file : files.sorted(Comparator.reverseOrder()).toList()) {
                Files.delete(file);
            }
        }
    }
}
