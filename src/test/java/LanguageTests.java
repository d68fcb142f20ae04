import java.io.IOException;
import java.lang.reflect.Constructor;
import java.lang.reflect.Field;
import java.lang.reflect.Method;
import java.lang.reflect.Modifier;
import java.nio.file.Files;
import java.nio.file.Path;
import java.util.ArrayList;
import java.util.List;
import java.util.Set;
import java.util.TreeSet;
import java.util.regex.Matcher;
import java.util.regex.Pattern;

/** The rules of LANGUAGE.md, as far as they can be told from the program's words, lines and members. */
public final class LanguageTests {
    private static final Set<String> IMPORTS = Set.of("java.util.ArrayList", "java.util.List", "java.util.Iterator",
            "java.util.Arrays", "java.util.NoSuchElementException");
    private static final Set<String> LIBRARY = Set.of("System.arraycopy", "Arrays.copyOf", "Arrays.copyOfRange",
            "Arrays.fill", "Math.max", "Math.min", "Math.abs", "Math.floorDiv", "Math.floorMod",
            "Integer.compare", "Integer.bitCount", "Integer.max", "Integer.min", "Long.compare", "Long.bitCount",
            "Long.max", "Long.min", "List.of");
    private static final Set<String> EXCEPTIONS = Set.of("IllegalStateException", "IllegalArgumentException",
            "IndexOutOfBoundsException", "ArithmeticException", "UnsupportedOperationException",
            "NoSuchElementException", "RuntimeException");
    private static final Set<String> CONSTANTS = Set.of("int", "long", "boolean", "char", "String", "int[]", "long[]",
            "char[]", "byte[]");
    private static final String[] NOT_IN_IT = {"package", "finally", "synchronized", "assert", "native", "Object",
        "hashCode", "toString", "getMessage", "getClass", "nanoTime", "Random", "Thread", "->", "::", "@"};
    private static final int MOST_LINES = 60;
    private static final int MOST_PARAMETERS = 7;
    private static final int MOST_CLASSES = 12;
    private static final int MOST_FIELDS = 20;

    private static final Check check = new Check("LanguageTests");

    public static void main(String[] args) throws IOException {
        String source = Files.readString(Path.of("src/main/java/PermutationDesk.java"));
        String code = withoutWords(source);
        words(code);
        library(code);
        exceptions(code);
        lines(code);
        members();
        check.end();
    }

    /** Comments and written texts are no code: nothing is left of them but their quotes. */
    private static String withoutWords(String source) {
        Pattern words = Pattern.compile("/\\*.*?\\*/|//[^\n]*|\"(\\\\.|[^\"\\\\])*\"|'(\\\\.|[^'\\\\])'", Pattern.DOTALL);
        return words.matcher(source).replaceAll(found -> found.group().startsWith("\"") ? "\"\"" : " ");
    }

    private static void words(String code) {
        for (String word : NOT_IN_IT) {
            String pattern = Character.isLetter(word.charAt(0)) ? "\\b" + word + "\\b" : Pattern.quote(word);
            check.no("has " + word, Pattern.compile(pattern).matcher(code).find());
        }
        check.no("a static initialiser", Pattern.compile("\\bstatic\\s*\\{").matcher(code).find());
        check.same("lines longer than 120", code.lines().filter(line -> line.length() > 120).count(), 0);
    }

    private static void library(String code) {
        Matcher imports = Pattern.compile("\\bimport\\s+([\\w.*]+)").matcher(code);
        while (imports.find()) {
            check.yes("may import " + imports.group(1), IMPORTS.contains(imports.group(1)));
        }
        Matcher calls = Pattern.compile("\\b(System|Arrays|Math|Integer|Long|List|String|Runtime)\\.(\\w+)").matcher(code);
        while (calls.find()) {
            check.yes("may use " + calls.group(), LIBRARY.contains(calls.group()));
        }
    }

    private static void exceptions(String code) {
        Matcher throwing = Pattern.compile("\\bthrow\\b\\s*(new\\s+(\\w+)\\((\"\")?\\);)?").matcher(code);
        while (throwing.find()) {
            check.yes("may throw " + throwing.group(), throwing.group(2) != null && EXCEPTIONS.contains(throwing.group(2)));
        }
    }

    /** A method ends with the first closing brace that stands as far in as its own first line. */
    private static void lines(String code) {
        List<String> lines = new ArrayList<>(code.lines().toList());
        Pattern head = Pattern.compile("( {4}| {8})\\w.*\\(.*");
        for (int first = 0; first < lines.size(); first++) {
            Matcher method = head.matcher(lines.get(first));
            if (method.matches() && !lines.get(first).contains("=") && !lines.get(first).endsWith(";")) {
                int length = lines.subList(first, lines.size()).indexOf(method.group(1) + "}") + 1;
                check.yes("short: " + lines.get(first), length > 0 && length <= MOST_LINES);
            }
        }
    }

    private static void members() {
        Class<?>[] inside = PermutationDesk.class.getDeclaredClasses();
        check.yes("few classes", inside.length + 1 <= MOST_CLASSES);
        Set<String> face = new TreeSet<>();
        for (Method method : PermutationDesk.class.getMethods()) {
            face.add(method.getName());
        }
        members(PermutationDesk.class, face);
        for (Class<?> one : inside) {
            check.no("public: " + one, Modifier.isPublic(one.getModifiers()) || Modifier.isProtected(one.getModifiers()));
            check.yes("static: " + one, Modifier.isStatic(one.getModifiers()));
            members(one, face);
        }
    }

    private static void members(Class<?> one, Set<String> face) {
        int fields = 0;
        for (Field field : one.getDeclaredFields()) {
            boolean isStatic = Modifier.isStatic(field.getModifiers());
            fields += isStatic ? 0 : 1;
            check.yes("constant: " + field, !isStatic || Modifier.isFinal(field.getModifiers())
                    && CONSTANTS.contains(field.getType().getSimpleName()));
        }
        check.yes("few fields: " + one, fields <= MOST_FIELDS);
        for (Method method : one.getDeclaredMethods()) {
            check.yes("few parameters: " + method, method.getParameterCount() <= MOST_PARAMETERS);
            check.no("name of the face: " + method, Modifier.isPrivate(method.getModifiers()) && face.contains(method.getName()));
        }
        for (Constructor<?> constructor : one.getDeclaredConstructors()) {
            check.yes("few parameters: " + constructor, constructor.getParameterCount() <= MOST_PARAMETERS);
        }
    }
}
