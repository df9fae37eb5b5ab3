import java.lang.reflect.Constructor;
import java.lang.reflect.Field;
import java.lang.reflect.Method;
import java.lang.reflect.Modifier;
import java.nio.file.Files;
import java.nio.file.Path;
import java.util.Arrays;
import java.util.Map;
import java.util.Set;
import java.util.TreeMap;
import java.util.TreeSet;
import java.util.regex.Matcher;
import java.util.regex.Pattern;

/** The document's face and those rules of LANGUAGE.md that can be seen from the class and its text. */
public final class LanguageTest {
    private static final Path SOURCE = Path.of("src/main/java/RootWeights.java");
    private static final Set<String> FACE = new TreeSet<>(Set.of(
            "type(int)", "first(int,int)", "second(int,int)", "number(int,int)", "size()", "most()",
            "orbit(int,int)", "high(int,int)", "product(int,int)", "kinds()", "total()", "even(int,int)",
            "odd(int,int)", "along(int,int)"));
    private static final String[] FORBIDDEN_WORDS = {
        "float", "double", "String", "Math", "Integer", "Long", "System", "Arrays", "Object", "import", "package",
        "throw", "throws", "try", "catch", "finally", "synchronized", "assert", "instanceof", "null", "enum",
        "interface", "record", "protected", "var", "getClass", "hashCode", "equals", "toString", "clone",
    };

    private static final Pattern METHOD = Pattern.compile(
            "(?ms)^    (?:public|private) (?:static )?(?:\\w+ )?(\\w+)\\([^)]*\\) \\{\\n(.*?)^    \\}$");
    private static final Pattern LOOP = Pattern.compile("\\b(for|while|do)\\b");
    private static final Pattern COUNTED_LOOP = Pattern.compile(
            "\\bfor \\(int (\\w+) = [^;]+; \\1 <=? [\\w ]+; \\1\\+\\+\\)");
    private static final Pattern CLASS_NAME = Pattern.compile("\\b(?!RootWeights\\b)[A-Z]\\w*[a-z]\\w*");
    private static final Set<Class<?>> TYPES = Set.of(
            int.class, long.class, short.class, byte.class, char.class, boolean.class);
    private static final int METHOD_LINES = 60;
    private static final int CALLS_DEEP = 6;

    public static void main(String[] args) throws Exception {
        Check check = new Check("language");
        String text = withoutComments(Files.readString(SOURCE));
        face(check);
        members(check);
        text(check, text);
        methods(check, text);
        check.end();
    }

    private static void face(Check check) {
        Set<String> found = new TreeSet<>();
        for (Method method : RootWeights.class.getDeclaredMethods()) {
            if (Modifier.isPublic(method.getModifiers())) {
                String types = Arrays.toString(method.getParameterTypes()).replaceAll("[\\[\\] ]", "");
                found.add(method.getName() + "(" + types + ")");
                check.holds(method + " answers an int", method.getReturnType() == int.class);
                check.holds(method + " is not static", !Modifier.isStatic(method.getModifiers()));
            }
        }
        check.holds("the public methods are the document's: " + found, found.equals(FACE));
        Constructor<?>[] constructors = RootWeights.class.getDeclaredConstructors();
        check.due("constructors", constructors.length, 1);
        check.holds("the constructor is public", Modifier.isPublic(constructors[0].getModifiers()));
        int modifiers = RootWeights.class.getModifiers();
        check.holds("the class is public and final", Modifier.isPublic(modifiers) && Modifier.isFinal(modifiers));
        check.due("nested classes", RootWeights.class.getDeclaredClasses().length, 0);
    }

    private static void members(Check check) {
        int fields = 0;
        for (Field field : RootWeights.class.getDeclaredFields()) {
            boolean isStatic = Modifier.isStatic(field.getModifiers());
            fields += isStatic ? 0 : 1;
            check.holds(field + " is private", Modifier.isPrivate(field.getModifiers()));
            check.holds(field + " is a number, a truth or an array of these", isAllowed(field.getType()));
            check.holds(field + ", if an array, is not assigned to by a method", !field.getType().isArray()
                    || Modifier.isFinal(field.getModifiers()));
            check.holds(field + ", if static, is a constant of int or long", !isStatic
                    || Modifier.isFinal(field.getModifiers())
                    && (field.getType() == int.class || field.getType() == long.class));
        }
        check.holds("at most forty fields", fields <= 40);
        Set<String> publicNames = new TreeSet<>();
        for (String signature : FACE) {
            publicNames.add(signature.replaceAll("\\(.*", ""));
        }
        for (Method method : RootWeights.class.getDeclaredMethods()) {
            boolean isPublic = Modifier.isPublic(method.getModifiers());
            check.holds(method + " is public or private", isPublic || Modifier.isPrivate(method.getModifiers()));
            check.holds(method + " has a name of its own", isPublic || !publicNames.contains(method.getName()));
            check.holds(method + " takes at most seven parameters", method.getParameterCount() <= 7);
            check.holds(method + " answers no array", !method.getReturnType().isArray());
            for (Class<?> type : method.getParameterTypes()) {
                check.holds(method + " takes numbers, truths and arrays of these", isAllowed(type));
            }
        }
    }

    private static boolean isAllowed(Class<?> type) {
        return TYPES.contains(type.isArray() ? type.getComponentType() : type);
    }

    private static void text(Check check, String text) {
        for (String word : FORBIDDEN_WORDS) {
            check.holds("no word " + word, !Pattern.compile("\\b" + word + "\\b").matcher(text).find());
        }
        check.due("names of other classes", found(CLASS_NAME, text), 0);
        check.holds("no lambda, method reference or string", !Pattern.compile("->|::|\"").matcher(text).find());
        check.holds("no array of arrays", !Pattern.compile("\\]\\s*\\[").matcher(text).find());
        String withoutArrayFields = text.replaceAll("private final int\\[\\] \\w+ = new int\\[[A-Z_]+\\];", "");
        check.holds("arrays are made in fields alone",
                !Pattern.compile("\\bnew\\b").matcher(withoutArrayFields).find());
    }

    /** Rules 8 and 10, as far as the class is written in the way that it is: one form of loop, one of method. */
    private static void methods(Check check, String text) {
        Map<String, String> bodies = new TreeMap<>();
        Matcher method = METHOD.matcher(text);
        while (method.find()) {
            bodies.put(method.group(1), method.group(2));
            check.holds(method.group(1) + " is short", method.group(2).lines().count() <= METHOD_LINES);
        }
        check.due("methods and constructors found", bodies.size(), RootWeights.class.getDeclaredMethods().length + 1);
        check.due("loops that count against a bound", found(COUNTED_LOOP, text), found(LOOP, text));
        String call = "\\b(" + String.join("|", bodies.keySet()) + ")\\(";
        for (String name : bodies.keySet()) {
            check.holds(name + " goes at most six calls deep", depth(bodies, call, name, 1) <= CALLS_DEEP);
            check.holds(name + " has no call inside another's arguments",
                    !Pattern.compile(call + "[^()]*(\\([^()]*\\)[^()]*)*\\b\\w+\\(").matcher(bodies.get(name)).find());
        }
    }

    /** The methods on the longest way down from this one; recursion is told as more than are allowed. */
    private static int depth(Map<String, String> bodies, String call, String name, int above) {
        int deepest = above;
        Matcher called = Pattern.compile(call).matcher(bodies.get(name));
        while (above <= CALLS_DEEP && called.find()) {
            deepest = Math.max(deepest, depth(bodies, call, called.group(1), above + 1));
        }
        return deepest;
    }

    private static long found(Pattern pattern, String text) {
        return pattern.matcher(text).results().count();
    }

    private static String withoutComments(String text) {
        return text.replaceAll("(?s)/\\*.*?\\*/", " ").replaceAll("//[^\\n]*", " ");
    }
}
