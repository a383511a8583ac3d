import java.lang.reflect.Constructor;
import java.lang.reflect.Field;
import java.lang.reflect.Method;
import java.lang.reflect.Modifier;
import java.nio.file.Files;
import java.nio.file.Path;
import java.util.ArrayList;
import java.util.List;
import java.util.TreeSet;
import java.util.regex.Matcher;
import java.util.regex.Pattern;

/** The public face that ../shared/DOC.md writes out, line by line, against the compiled class. */
public final class FaceTest {
    public static void main(String[] args) throws Exception {
        String page = Files.readString(Path.of("../shared/DOC.md"));
        Matcher block = Pattern.compile("(?s)## The public face\\s+```java\n(.*?)```").matcher(page);
        Check.due("DOC.md has a public face", block.find(), true);
        TreeSet<String> told = new TreeSet<>();
        for (String line : block.group(1).split("\n")) {
            if (line.startsWith("    public ")) {
                told.add(plain(line));
            }
        }
        TreeSet<String> there = new TreeSet<>(methods());
        there.addAll(constructorsAndFields());
        for (String line : told) {
            Check.due("the class has: " + line, there.contains(line), true);
        }
        for (String line : there) {
            Check.due("the document has: " + line, told.contains(line), true);
        }
        Check.due("50 methods, a constructor and a constant", told.size(), 52);
        Check.due("nothing is inherited but from Object", SignBoard.class.getSuperclass() == Object.class
                && SignBoard.class.getInterfaces().length == 0, true);
        Check.due("the classes inside are no part of the face", SignBoard.class.getClasses().length, 0);
        promisesTellTheSame(page, told);
        Check.finish();
    }

    /** A line of the face without its parameters' names and its last sign. */
    private static String plain(String line) {
        String text = line.trim().replaceAll(";$", "");
        return text.replaceAll("(int|boolean) [a-z]+(?=[,)])", "$1");
    }

    private static List<String> methods() {
        List<String> lines = new ArrayList<>();
        for (Method m : SignBoard.class.getDeclaredMethods()) {
            if (Modifier.isPublic(m.getModifiers())) {
                Check.due(m.getName() + " is public and no more", m.getModifiers(), Modifier.PUBLIC);
                lines.add("public " + m.getReturnType().getSimpleName() + " " + m.getName() + "("
                        + names(m.getParameterTypes()) + ")" + thrown(m.getExceptionTypes()));
            }
        }
        return lines;
    }

    private static List<String> constructorsAndFields() throws Exception {
        List<String> lines = new ArrayList<>();
        for (Constructor<?> k : SignBoard.class.getConstructors()) {
            lines.add("public SignBoard(" + names(k.getParameterTypes()) + ")" + thrown(k.getExceptionTypes()));
        }
        for (Field f : SignBoard.class.getFields()) {
            lines.add(Modifier.toString(f.getModifiers()) + " " + f.getType().getSimpleName() + " " + f.getName() + " = "
                    + f.getInt(null));
        }
        return lines;
    }

    private static String names(Class<?>[] types) {
        List<String> names = new ArrayList<>();
        for (Class<?> type : types) {
            names.add(type.getSimpleName());
        }
        return String.join(", ", names);
    }

    private static String thrown(Class<?>[] types) {
        return types.length == 0 ? "" : " throws " + names(types);
    }

    /** Each promise's own line of the document is one of the face: a promise that is told is there to be called. */
    private static void promisesTellTheSame(String page, TreeSet<String> told) {
        Matcher promise = Pattern.compile("(?m)^## Promise (\\d+): ([^\n]+)\\s+`([^`]+)`:").matcher(page);
        int number = 0;
        while (promise.find()) {
            number++;
            Check.due("the promise behind promise " + (number - 1), Integer.parseInt(promise.group(1)), number);
            String line = plain("public " + promise.group(3));
            Check.due("promise " + number + " is of the face: " + line, told.contains(line), true);
        }
        Check.due("promises", number, 51);
    }
}
