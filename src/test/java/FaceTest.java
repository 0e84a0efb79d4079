import java.io.IOException;
import java.lang.reflect.Constructor;
import java.lang.reflect.Field;
import java.lang.reflect.Member;
import java.lang.reflect.Method;
import java.lang.reflect.Modifier;
import java.nio.file.Files;
import java.nio.file.Path;
import java.util.Arrays;
import java.util.Set;
import java.util.TreeSet;
import java.util.regex.Matcher;
import java.util.regex.Pattern;

/** The public face of the document, and those rules of LANGUAGE.md that can be read off. */
public final class FaceTest {
    private static final Set<String> METHODS = Set.of("sheet 2", "cut 4", "row 3", "wish 3",
            "cell 4", "layer 2", "island 3", "bridge 3", "knife 2", "loop 3", "paint 2", "wrong 1",
            "best 1", "image 1", "restore 1", "count 1");
    private static final Set<String> CONSTANTS = Set.of("UNKNOWN -1", "OUTSIDE -2", "STATE -3",
            "NONE -6");
    private static final Pattern FORBIDDEN = Pattern.compile("\\b(throw|throws|try|catch|finally"
            + "|synchronized|assert|Random|Thread|Object|System\\.(?!arraycopy)\\w+|\\w+Exact)\\b"
            + "|->|::");
    private static final Pattern LIBRARY = Pattern.compile("\\b(Arrays|System|Integer|Long|Math|"
            + "String|List)\\.\\w+");
    private static final Set<String> ALLOWED = Set.of("Arrays.fill", "System.arraycopy",
            "Integer.bitCount", "Math.abs");
    // The arrays in a call that fills or copies: the first argument, and the third one of a copy.
    private static final Pattern FILLED = Pattern.compile("(?:Arrays\\.\\w+|System\\.arraycopy)"
            + "\\(([\\w.]+),(?:[^,;]+,\\s*([\\w.]+),)?");
    private static final int MOST_CLASSES = 12;
    private static final int MOST_FIELDS = 20;
    private static final int MOST_PARAMETERS = 7;
    private static final int MOST_LINES = 60;

    public static void main(String[] args) throws Exception {
        Check.holds("public and final", Modifier.isPublic(StencilCuts.class.getModifiers())
                && Modifier.isFinal(StencilCuts.class.getModifiers()));
        methods();
        constants();
        Constructor<?>[] constructors = StencilCuts.class.getDeclaredConstructors();
        Check.holds("one public constructor without parameters", constructors.length == 1
                && Modifier.isPublic(constructors[0].getModifiers())
                && constructors[0].getParameterCount() == 0);
        for (Class<?> inner : StencilCuts.class.getDeclaredClasses()) {
            int kind = inner.getModifiers();
            Check.holds(inner + " is static and not public", Modifier.isStatic(kind)
                    && !Modifier.isPublic(kind) && !Modifier.isProtected(kind));
            staticsAreFinal(inner);
            sizes(inner);
        }
        Check.holds("few classes", StencilCuts.class.getDeclaredClasses().length < MOST_CLASSES);
        staticsAreFinal(StencilCuts.class);
        sizes(StencilCuts.class);
        source();
        Check.finish();
    }

    private static void methods() {
        Set<String> seen = new TreeSet<>();
        Set<String> hidden = new TreeSet<>();
        for (Method method : StencilCuts.class.getDeclaredMethods()) {
            if (isPrivate(method)) {
                hidden.add(method.getName());
                continue;
            }
            seen.add(method.getName() + " " + method.getParameterCount());
            Check.holds(method + " takes and returns int", method.getReturnType() == int.class
                    && Arrays.stream(method.getParameterTypes()).allMatch(t -> t == int.class)
                    && Modifier.isPublic(method.getModifiers())
                    && !Modifier.isStatic(method.getModifiers()));
        }
        Check.holds("methods of the face: " + seen, seen.equals(new TreeSet<>(METHODS)));
        for (String name : seen) {
            Check.holds("no private method " + name, !hidden.contains(name.split(" ")[0]));
        }
    }

    private static void constants() throws IllegalAccessException {
        Set<String> seen = new TreeSet<>();
        for (Field field : StencilCuts.class.getDeclaredFields()) {
            if (!isPrivate(field)) {
                seen.add(field.getName() + " " + field.getInt(null));
            }
        }
        Check.holds("constants of the face: " + seen, seen.equals(new TreeSet<>(CONSTANTS)));
    }

    private static boolean isPrivate(Member member) {
        return Modifier.isPrivate(member.getModifiers());
    }

    private static void staticsAreFinal(Class<?> type) {
        for (Field field : type.getDeclaredFields()) {
            int kind = field.getModifiers();
            Check.holds(field + " is final", !Modifier.isStatic(kind) || Modifier.isFinal(kind));
        }
    }

    private static void sizes(Class<?> type) {
        int fields = 0;
        for (Field field : type.getDeclaredFields()) {
            fields += Modifier.isStatic(field.getModifiers()) ? 0 : 1;
        }
        Check.holds(type + " has few fields", fields <= MOST_FIELDS);
        for (Method method : type.getDeclaredMethods()) {
            Check.holds(method + " has few parameters",
                    method.getParameterCount() <= MOST_PARAMETERS);
        }
    }

    private static void source() throws IOException {
        String text = Files.readString(Path.of("src/main/java/StencilCuts.java"));
        String code = text.replaceAll("(?s)/\\*.*?\\*/", "").replaceAll("//[^\n]*", "");
        Matcher found = FORBIDDEN.matcher(code);
        while (found.find()) {
            Check.holds("no '" + found.group() + "' in the class", false);
        }
        Matcher imports = Pattern.compile("import ([\\w.*]+);").matcher(code);
        while (imports.find()) {
            Check.holds("import of " + imports.group(1), imports.group(1).equals("java.util.Arrays"));
        }
        Check.holds("no package line", !Pattern.compile("(?m)^\\s*package\\b").matcher(code).find());
        library(code);
        lengths(text);
    }

    /** Rule 4: only what is listed, and filled and copied are arrays of numbers alone. */
    private static void library(String code) {
        Matcher used = LIBRARY.matcher(code.replaceAll("import [^;]*;", ""));
        while (used.find()) {
            Check.holds("use of " + used.group(), ALLOWED.contains(used.group()));
        }
        Matcher filled = FILLED.matcher(code);
        while (filled.find()) {
            ofNumbers(code, filled.group(1));
            if (filled.group().startsWith("System")) {
                ofNumbers(code, filled.group(2));
            }
        }
    }

    private static void ofNumbers(String code, String array) {
        String name = array == null ? "" : array.substring(array.lastIndexOf('.') + 1);
        Check.holds(array + " is an array of numbers", code.contains("int[] " + name + ";")
                && !code.contains("boolean[] " + name + ";"));
    }

    /** Rule 11: a method begins on a line that ends in ") {", and ends with its own indentation. */
    private static void lengths(String text) {
        Matcher methods = Pattern.compile("(?m)^( {4}| {8})(?! )[^\n=]*\\) \\{\n(.*\n)*?\\1\\}$")
                .matcher(text);
        int seen = 0;
        while (methods.find()) {
            String method = methods.group();
            Check.holds(method.lines().findFirst().orElse("") + " is short",
                    method.lines().count() <= MOST_LINES);
            seen++;
        }
        Check.holds("methods in the text: " + seen, seen > 16);
    }
}
