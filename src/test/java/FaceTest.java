import java.io.IOException;
import java.lang.reflect.Constructor;
import java.lang.reflect.Field;
import java.lang.reflect.Method;
import java.lang.reflect.Modifier;
import java.nio.file.Files;
import java.nio.file.Path;
import java.util.Arrays;
import java.util.List;
import java.util.TreeSet;
import java.util.regex.Matcher;
import java.util.regex.Pattern;

/** The public face, and those rules of LANGUAGE.md that can be seen from the file. */
final class FaceTest {
    private static final List<String> FACE = List.of(
        "rule(int,int,int,int,int,int)", "arc(int,int,int)", "end(int,int)", "clear()", "push(int)", "drop()",
        "lies(int)", "far(int)", "way(int,int)", "after(int)", "type(long,int)", "read()", "place()", "told(int,int)",
        "check()", "trace(int,int)");

    private final Due due = new Due("FaceTest");

    public static void main(String[] args) throws IOException {
        FaceTest test = new FaceTest();
        test.members();
        test.nestedClasses();
        test.source(Files.readString(Path.of("src/main/java/StackPrograms.java")));
        test.due.close();
    }

    private static String signature(Method m) {
        StringBuilder s = new StringBuilder(m.getName()).append('(');
        for (Class<?> c : m.getParameterTypes()) {
            s.append(s.charAt(s.length() - 1) == '(' ? "" : ",").append(c.getName());
        }
        return s.append(')').toString();
    }

    private void members() {
        Class<?> c = StackPrograms.class;
        due.holds("public and final", Modifier.isPublic(c.getModifiers()) && Modifier.isFinal(c.getModifiers()));
        TreeSet<String> seen = new TreeSet<>();
        for (Method m : c.getDeclaredMethods()) {
            boolean isPublic = Modifier.isPublic(m.getModifiers());
            if (isPublic) {
                seen.add(signature(m));
                due.holds(m + " answers an int", m.getReturnType() == int.class && !Modifier.isStatic(m.getModifiers()));
            } else {
                due.holds(m + " is private", Modifier.isPrivate(m.getModifiers()) || m.isSynthetic());
            }
        }
        due.holds("the face is " + seen, seen.equals(new TreeSet<>(FACE)));
        for (Constructor<?> k : c.getDeclaredConstructors()) {
            due.holds("one constructor " + k, Modifier.isPublic(k.getModifiers()) && k.getParameterCount() == 0);
        }
        TreeSet<String> constants = new TreeSet<>();
        for (Field f : c.getDeclaredFields()) {
            if (Modifier.isPublic(f.getModifiers())) {
                constants.add(f.getName());
                due.holds("a constant " + f, Modifier.isStatic(f.getModifiers()) && Modifier.isFinal(f.getModifiers()));
            } else {
                due.holds(f + " is private", Modifier.isPrivate(f.getModifiers()));
            }
            due.holds(f + " is no static state", !Modifier.isStatic(f.getModifiers()) || Modifier.isFinal(f.getModifiers()));
        }
        due.holds("the constants", constants.equals(new TreeSet<>(List.of("NONE", "BAD", "FULL"))));
        due.is("NONE", StackPrograms.NONE, -1);
        due.is("BAD", StackPrograms.BAD, -2);
        due.is("FULL", StackPrograms.FULL, -3);
    }

    private void nestedClasses() {
        Class<?>[] nested = StackPrograms.class.getDeclaredClasses();
        due.holds("some twelve classes at most", nested.length <= 11);
        for (Class<?> c : nested) {
            due.holds(c + " is static", Modifier.isStatic(c.getModifiers()));
            due.holds(c + " is not public", !Modifier.isPublic(c.getModifiers()) && !Modifier.isProtected(c.getModifiers()));
            long fields = Arrays.stream(c.getDeclaredFields()).filter(f -> !Modifier.isStatic(f.getModifiers())).count();
            due.holds(c + " has some twenty fields at most", fields <= 20);
            for (Method m : c.getDeclaredMethods()) {
                due.holds(m + " has no name of the face", FACE.stream().noneMatch(f -> f.startsWith(m.getName() + "(")));
                due.holds(m + " has seven parameters at most", m.getParameterCount() <= 7);
            }
            for (Field f : c.getDeclaredFields()) {
                due.holds(f + " is no static state", !Modifier.isStatic(f.getModifiers()) || Modifier.isFinal(f.getModifiers()));
            }
        }
    }

    private void source(String whole) {
        String code = whole.replaceAll("(?s)/\\*.*?\\*/", "").replaceAll("//[^\n]*", "").replaceAll("\"[^\"\n]*\"", "\"\"");
        for (String word : List.of("throw", "throws", "try", "catch", "finally", "synchronized", "assert", "package",
            "volatile", "transient", "native", "Object", "System", "Exception", "protected")) {
            due.holds("without " + word, !Pattern.compile("\\b" + word + "\\b").matcher(code).find());
        }
        due.holds("no lambda, no method reference", !code.contains("->") && !code.contains("::"));
        Matcher imports = Pattern.compile("import ([^;]*);").matcher(code);
        while (imports.find()) {
            due.holds("import " + imports.group(1), imports.group(1).equals("java.util.Arrays"));
        }
        Matcher called = Pattern.compile("\\b(Arrays|Math|Integer|Long)\\.(\\w+)").matcher(code);
        while (called.find()) {
            due.holds("uses " + called.group(), List.of("fill", "min", "max").contains(called.group(2)));
        }
        methodsAreShort(whole.split("\n", -1));
    }

    /** A method begins at a line that ends in ") {" and is no part of one, and ends where its indent comes back. */
    private void methodsAreShort(String[] lines) {
        int begin = -1;
        String close = "";
        for (int i = 0; i < lines.length; i++) {
            String line = lines[i].stripLeading();
            String indent = lines[i].substring(0, lines[i].length() - line.length());
            if (begin < 0 && line.endsWith(") {")) {
                begin = i;
                close = indent + "}";
            } else if (begin >= 0 && lines[i].equals(close)) {
                due.holds("short: " + lines[begin].strip(), i - begin < 60);
                begin = -1;
            }
        }
    }
}
