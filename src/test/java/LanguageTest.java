import java.lang.reflect.Constructor;
import java.lang.reflect.Field;
import java.lang.reflect.Method;
import java.lang.reflect.Modifier;
import java.nio.file.Files;
import java.nio.file.Path;
import java.util.ArrayList;
import java.util.HashSet;
import java.util.List;
import java.util.Set;
import java.util.TreeSet;
import java.util.regex.Matcher;
import java.util.regex.Pattern;

/** What of LANGUAGE.md can be seen in the source's text and in the compiled class. */
public final class LanguageTest {
    private static final String FACE = "aslant back bears best brush cannot count dropped end ends fades far fault feed "
            + "fits from gap image inch lacks laid lamp law lays letter likely log lookers middle nearest off order paint "
            + "read row runs seed shadow shift shop side sign slips span squeeze squeezed trial undo uneven wrote";

    public static void main(String[] args) throws Exception {
        String source = Files.readString(Path.of("src/main/java/SignBoard.java"));
        String code = source.replaceAll("(?s)/\\*.*?\\*/", "").replaceAll("//[^\n]*", "");
        String bare = code.replaceAll("\"[^\"\n]*\"", "\"\"");
        words(bare);
        imports(code);
        face();
        classes();
        lengths(code);
        Check.finish();
    }

    private static void words(String bare) {
        String[] never = {"->", "::", "\\bfinally\\b", "\\bsynchronized\\b", "\\bassert\\b", "\\btry\\b", "\\bcatch\\b",
            "\\bdouble\\b", "\\bfloat\\b", "\\bObject\\b", "\\bstatic\\s*\\{", "\\bprotected\\b", "\\bpackage\\b",
            "\\bRandom\\b", "\\bThread\\b", "Exact\\b", "\\bhashCode\\b", "\\btoString\\b", "\\bvar\\b", "\"\"\\s*\\+",
            "\\+\\s*\"\"", "System\\.(?!arraycopy)", "Arrays\\.(?!fill)", "Math\\.(?!abs|max|min|floorMod)",
            "Integer\\.(?!bitCount)"};
        for (String word : never) {
            Matcher m = Pattern.compile(word).matcher(bare);
            Check.due("places of " + word, m.results().count(), 0);
        }
        for (char sign : bare.toCharArray()) {
            if (sign > 126) {
                Check.due("a sign beyond 126", sign, 0);
            }
        }
        Matcher thrown = Pattern.compile("throw\\b(?! new (IllegalStateException|IllegalArgumentException|"
                + "IndexOutOfBoundsException|UnsupportedOperationException|NoSuchElementException)\\()").matcher(bare);
        Check.due("throws of another form", thrown.results().count(), 0);
    }

    private static void imports(String code) {
        Set<String> imports = new TreeSet<>();
        Matcher m = Pattern.compile("import ([a-zA-Z.*]+);").matcher(code);
        while (m.find()) {
            imports.add(m.group(1));
        }
        Check.due("imports", imports.equals(Set.of("java.util.Arrays", "java.util.NoSuchElementException")), true);
    }

    private static void face() {
        Class<?> c = SignBoard.class;
        Check.due("public and final", c.getModifiers() & (Modifier.PUBLIC | Modifier.FINAL),
                Modifier.PUBLIC | Modifier.FINAL);
        Set<String> names = new TreeSet<>();
        Set<String> hidden = new HashSet<>();
        for (Method m : c.getDeclaredMethods()) {
            if (Modifier.isPublic(m.getModifiers())) {
                Check.due("one method " + m.getName(), names.add(m.getName()), true);
            } else {
                Check.due("private " + m.getName(), Modifier.isPrivate(m.getModifiers()), true);
                hidden.add(m.getName());
            }
        }
        Check.due("the face", String.join(" ", names).equals(FACE), true);
        for (Class<?> inner : c.getDeclaredClasses()) {
            for (Method m : inner.getDeclaredMethods()) {
                hidden.add(m.getName());
            }
        }
        hidden.retainAll(names);
        Check.due("methods with a name of the face: " + hidden, hidden.size(), 0);
        for (Field f : c.getDeclaredFields()) {
            boolean none = f.getName().equals("NONE");
            Check.due("field " + f.getName(), none ? Modifier.isPublic(f.getModifiers())
                    : Modifier.isPrivate(f.getModifiers()), true);
        }
        for (Constructor<?> k : c.getDeclaredConstructors()) {
            Check.due("constructor", k.getParameterCount(), 0);
        }
    }

    private static void classes() {
        List<Class<?>> all = new ArrayList<>(List.of(SignBoard.class.getDeclaredClasses()));
        Check.due("at most twelve classes", all.size() + 1 <= 12, true);
        for (Class<?> c : all) {
            Check.due(c.getName() + " is static", Modifier.isStatic(c.getModifiers()), true);
            Check.due(c.getName() + " is private", Modifier.isPrivate(c.getModifiers()), true);
        }
        all.add(SignBoard.class);
        for (Class<?> c : all) {
            int own = 0;
            for (Field f : c.getDeclaredFields()) {
                if (Modifier.isStatic(f.getModifiers())) {
                    Check.due(c.getName() + "." + f.getName() + " is final", Modifier.isFinal(f.getModifiers()), true);
                } else {
                    own++;
                }
            }
            Check.due(c.getName() + " has at most 20 fields", own <= 20, true);
            for (Method m : c.getDeclaredMethods()) {
                Check.due(m + " has at most 7 parameters", m.getParameterCount() <= 7, true);
            }
        }
    }

    /** A method's lines, from the one that opens its body to the one that shuts it at the same depth. */
    private static void lengths(String code) {
        String[] lines = code.split("\n");
        Pattern opens = Pattern.compile("^( {4}| {8})(?!private static final class)[a-zA-Z].*\\) ?(throws [^{]*)?\\{$");
        for (int i = 0; i < lines.length; i++) {
            Matcher m = opens.matcher(lines[i]);
            if (m.matches()) {
                String shuts = m.group(1) + "}";
                int end = i;
                while (end < lines.length - 1 && !lines[end].equals(shuts)) {
                    end++;
                }
                Check.due("at most 60 lines of " + lines[i].trim(), end - i < 60, true);
            }
        }
    }
}
