import java.lang.reflect.Constructor;
import java.lang.reflect.Field;
import java.lang.reflect.Method;
import java.lang.reflect.Modifier;
import java.nio.file.Files;
import java.nio.file.Path;
import java.util.ArrayList;
import java.util.List;
import java.util.Set;
import java.util.TreeSet;
import java.util.regex.Matcher;
import java.util.regex.Pattern;

/** The public face, and the language rules as far as they can be told from the class and its text. */
public final class FaceTests {
    private static final Path SOURCE = Path.of("src/main/java/PatternForge.java");
    private static final Set<Class<?>> NUMBERS = Set.of(int.class, long.class, short.class, byte.class, char.class,
            boolean.class);

    // The rules say "some sixty" and "some forty".
    private static final int MOST_LINES = 65, MOST_FIELDS = 45;

    private static int wrong = 0;

    private static void must(String what, boolean holds) {
        if (!holds) {
            wrong++;
            System.out.println("does not hold: " + what);
        }
    }

    private static void face() {
        Class<?> type = PatternForge.class;
        must("public and final", Modifier.isPublic(type.getModifiers()) && Modifier.isFinal(type.getModifiers()));
        must("one class", type.getDeclaredClasses().length == 0 && type.getPackageName().isEmpty());
        Set<String> due = new TreeSet<>(List.of("int con(int)", "int token(int,int)", "int row(int)", "int drop(int)",
                "int give()", "int run(int)", "int result(int)", "int ran(int)", "int use()", "int taken(int)",
                "long count(int,int,int)", "int useless(int)", "int open(int)", "int witness(int,int)"));
        Set<String> names = new TreeSet<>();
        for (String method : due) {
            names.add(method.substring(method.indexOf(' ') + 1, method.indexOf('(')));
        }
        Set<String> there = new TreeSet<>();
        for (Method method : type.getDeclaredMethods()) {
            if (Modifier.isPublic(method.getModifiers())) {
                there.add(method.toString().replace("public ", "").replace("PatternForge.", ""));
            } else {
                must(method + " is private", Modifier.isPrivate(method.getModifiers()));
                must(method + " has a name of its own", !names.contains(method.getName()));
            }
            must(method + " has at most 7 parameters", method.getParameterCount() <= 7);
        }
        must("the methods are " + due + ", not " + there, due.equals(there));
        Constructor<?>[] constructors = type.getDeclaredConstructors();
        must("one public constructor", constructors.length == 1 && Modifier.isPublic(constructors[0].getModifiers())
                && constructors[0].getParameterCount() == 0);
    }

    private static void fields() throws IllegalAccessException {
        List<String> constants = new ArrayList<>();
        int own = 0;
        for (Field field : PatternForge.class.getDeclaredFields()) {
            boolean fixed = Modifier.isStatic(field.getModifiers());
            Class<?> kind = field.getType().isArray() ? field.getType().getComponentType() : field.getType();
            must(field + " is of numbers", NUMBERS.contains(kind));
            must(field + " is a constant", !fixed || Modifier.isFinal(field.getModifiers())
                    && (field.getType() == int.class || field.getType() == long.class));
            if (Modifier.isPublic(field.getModifiers())) {
                must(field + " is static", fixed);
                constants.add(field.getName() + " " + field.getInt(null));
            } else {
                must(field + " is private", Modifier.isPrivate(field.getModifiers()));
            }
            own += fixed ? 0 : 1;
        }
        constants.sort(null);
        must("the constants, not " + constants, constants.equals(
                List.of("BIG 3", "LONG 2", "OK 0", "REFUSED -1", "STUCK 1", "WRONG -2")));
        must("some forty fields, not " + own, own <= MOST_FIELDS);
    }

    private static void text() throws java.io.IOException {
        String text = Files.readString(SOURCE).replaceAll("(?s)/\\*.*?\\*/", "").replaceAll("//[^\n]*", "");
        for (String word : List.of("import", "package", "null", "throw", "try", "catch", "synchronized", "assert",
                "instanceof", "String", "Math", "Integer", "System", "Arrays", "float", "double", "Object", "enum",
                "record", "interface", "var", "->", "::")) {
            boolean there = Pattern.compile(word.matches("\\w+") ? "\\b" + word + "\\b" : word).matcher(text).find();
            must("without " + word, !there);
        }
        List<String> names = new ArrayList<>();
        List<String> bodies = new ArrayList<>();
        methods(text, names, bodies);
        must("all methods are read", names.size() == PatternForge.class.getDeclaredMethods().length + 1);
        for (int m = 0; m < names.size(); m++) {
            boolean makes = Pattern.compile("\\bnew\\b").matcher(bodies.get(m)).find();
            must(names.get(m) + " makes nothing", !makes || names.get(m).equals("PatternForge"));
            must(names.get(m) + " is short", bodies.get(m).lines().count() <= MOST_LINES);
            must(names.get(m) + " has no call inside of a call's arguments", !callsInArguments(bodies.get(m), names));
        }
        depths(names, bodies);
        arrays(text);
    }

    /** Each array is of one dimension and made once, by a field's initialiser, with a literal or a constant as length. */
    private static void arrays(String text) {
        must("arrays of one dimension", !Pattern.compile("\\]\\s*\\[").matcher(text).find());
        String field = "(?m)^    private (?:final )?(\\w+)\\[\\] (\\w+) = new \\1\\[(\\w+)\\];$";
        Matcher made = Pattern.compile(field).matcher(text);
        int initialised = 0;
        while (made.find()) {
            initialised++;
            boolean constant = Pattern.compile("\\b" + made.group(3) + " = ").matcher(text).find();
            must(made.group(2) + " has a fixed length", constant || made.group(3).matches("[1-9]\\d*"));
            boolean again = Pattern.compile("(?<!\\] )\\b" + made.group(2) + " = ").matcher(text).find();
            must(made.group(2) + " is made once", !again);
        }
        long all = Pattern.compile("\\bnew\\b").matcher(text).results().count();
        must("each new is a field's array, " + initialised + " of " + all, initialised == all);
    }

    /** The methods and the constructor: what stands in braces right inside of the class's own, after a bracket. */
    private static void methods(String text, List<String> names, List<String> bodies) {
        Matcher heads = Pattern.compile("(\\w+)\\s*\\([^()]*\\)\\s*\\{").matcher(text);
        int from = 0;
        while (heads.find(from)) {
            int level = 1;
            int at = heads.end();
            while (at < text.length() && level > 0) {
                level += text.charAt(at) == '{' ? 1 : text.charAt(at) == '}' ? -1 : 0;
                at++;
            }
            names.add(heads.group(1));
            bodies.add(text.substring(heads.end(), at));
            from = at;
        }
    }

    private static boolean callsInArguments(String body, List<String> names) {
        Matcher calls = Pattern.compile("\\b(\\w+)\\s*\\(").matcher(body);
        while (calls.find()) {
            if (!names.contains(calls.group(1))) {
                continue;
            }
            int level = 1;
            int at = calls.end();
            while (at < body.length() && level > 0) {
                level += body.charAt(at) == '(' ? 1 : body.charAt(at) == ')' ? -1 : 0;
                at++;
            }
            Matcher inner = Pattern.compile("\\b(\\w+)\\s*\\(").matcher(body.substring(calls.end(), at));
            while (inner.find()) {
                if (names.contains(inner.group(1))) {
                    return true;
                }
            }
        }
        return false;
    }

    /** No recursion, and calls at most six deep. */
    private static void depths(List<String> names, List<String> bodies) {
        int[] depth = new int[names.size()];
        // Each round can make a chain one call longer; one that has no end grows with each of them.
        for (int round = 0; round <= names.size(); round++) {
            for (int m = 0; m < names.size(); m++) {
                int deepest = 0;
                for (int other = 0; other < names.size(); other++) {
                    boolean called = Pattern.compile("\\b" + names.get(other) + "\\s*\\(").matcher(bodies.get(m)).find();
                    deepest = called ? Math.max(deepest, depth[other]) : deepest;
                }
                depth[m] = deepest + 1;
            }
        }
        for (int m = 0; m < names.size(); m++) {
            must(names.get(m) + " goes at most six deep, not " + depth[m], depth[m] <= 6);
        }
    }

    public static void main(String[] args) throws Exception {
        face();
        fields();
        text();
        if (wrong != 0) {
            System.exit(1);
        }
    }
}
