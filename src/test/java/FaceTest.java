import java.io.IOException;
import java.lang.reflect.Constructor;
import java.lang.reflect.Field;
import java.lang.reflect.Method;
import java.lang.reflect.Modifier;
import java.nio.file.Files;
import java.nio.file.Path;
import java.util.Arrays;
import java.util.HashSet;
import java.util.Map;
import java.util.Set;
import java.util.TreeMap;
import java.util.TreeSet;
import java.util.regex.Matcher;
import java.util.regex.Pattern;

/** The public face, and the rules of LANGUAGE.md that can be seen from the class or its text. */
public final class FaceTest {
    private static final Due due = new Due();

    /** Each public method with the number of its parameters, which are ints, as is its answer. */
    private static final String METHODS = "put/3 swap/3 erase/2 revision/0 remembered/0 compact/1 "
            + "value/2 count/3 keyAt/4 made/1 set/1 version/1 leaseOf/1 grant/2 renew/1 revoke/1 "
            + "remaining/1 keysOf/1 advance/1 watch/4 unwatch/1 next/1 handed/2 waiting/1";

    private static final String CONSTANTS = "BAD_ARG FULL NONE FORGOTTEN LATER BUSY";

    private static final String WORDS_NOT_USED = "import package throw throws try catch finally "
            + "synchronized assert instanceof null float double String Math Integer System Arrays "
            + "Object enum record interface extends implements super protected native volatile";

    public static void main(String[] args) throws IOException {
        constants();
        theClass();
        methods();
        fields();
        String text = Files.readString(Path.of("src/main/java/RevisionedKeys.java"));
        String code = withoutComments(text);
        words(code);
        objectsMade(code);
        loops(code);
        callsInArguments(code);
        sizeOfMethods(code);
        depthOfCalls(code);
        due.end();
    }

    private static Set<String> setOf(String words) {
        return new TreeSet<>(Arrays.asList(words.split(" ")));
    }

    private static void constants() {
        due.about("the constants");
        due.is("BAD_ARG", RevisionedKeys.BAD_ARG, Due.BAD_ARG);
        due.is("FULL", RevisionedKeys.FULL, Due.FULL);
        due.is("NONE", RevisionedKeys.NONE, Due.NONE);
        due.is("FORGOTTEN", RevisionedKeys.FORGOTTEN, Due.FORGOTTEN);
        due.is("LATER", RevisionedKeys.LATER, Due.LATER);
        due.is("BUSY", RevisionedKeys.BUSY, Due.BUSY);
    }

    private static void theClass() {
        due.about("the class");
        Class<?> face = RevisionedKeys.class;
        int modifiers = face.getModifiers();
        due.holds("public", Modifier.isPublic(modifiers));
        due.holds("final", Modifier.isFinal(modifiers));
        due.holds("no package", face.getPackageName().isEmpty());
        due.holds("no parent", face.getSuperclass() == Object.class);
        due.is("interfaces", face.getInterfaces().length, 0);
        due.is("nested classes", face.getDeclaredClasses().length, 0);
        Constructor<?>[] constructors = face.getDeclaredConstructors();
        due.is("constructors", constructors.length, 1);
        due.is("parameters", constructors[0].getParameterCount(), 0);
        due.holds("public", Modifier.isPublic(constructors[0].getModifiers()));
    }

    private static void methods() {
        due.about("the methods");
        Set<String> found = new TreeSet<>();
        Set<String> publicNames = new HashSet<>();
        for (Method method : RevisionedKeys.class.getMethods()) {
            if (method.getDeclaringClass() == RevisionedKeys.class) {
                found.add(method.getName() + "/" + method.getParameterCount());
                publicNames.add(method.getName());
                due.holds(method + " is not static", !Modifier.isStatic(method.getModifiers()));
                due.holds(method + " answers int", method.getReturnType() == int.class);
                for (Class<?> type : method.getParameterTypes()) {
                    due.holds(method + " takes ints", type == int.class);
                }
            }
        }
        due.holds("they are the document's: " + found, found.equals(setOf(METHODS)));
        for (Method method : RevisionedKeys.class.getDeclaredMethods()) {
            if (!Modifier.isPublic(method.getModifiers())) {
                due.holds(method + " is private", Modifier.isPrivate(method.getModifiers()));
                due.holds(method + " has its own name", !publicNames.contains(method.getName()));
                due.holds(method + " answers no array", !method.getReturnType().isArray());
                due.holds(method + " takes few", method.getParameterCount() <= 7);
            }
        }
    }

    private static void fields() {
        due.about("the fields");
        Set<String> found = new TreeSet<>();
        int beside = 0;
        for (Field field : RevisionedKeys.class.getDeclaredFields()) {
            int modifiers = field.getModifiers();
            Class<?> type = field.getType();
            if (Modifier.isPublic(modifiers)) {
                found.add(field.getName());
                due.holds(field + " is a constant", Modifier.isStatic(modifiers));
            } else {
                due.holds(field + " is private", Modifier.isPrivate(modifiers));
            }
            if (Modifier.isStatic(modifiers)) {
                due.holds(field + " is final", Modifier.isFinal(modifiers));
                due.holds(field + " is a number", type == int.class || type == long.class);
            } else {
                beside++;
                Class<?> held = type.isArray() ? type.getComponentType() : type;
                due.holds(field + " is plain", held.isPrimitive());
            }
        }
        due.holds("they are the document's: " + found, found.equals(setOf(CONSTANTS)));
        due.holds("at most forty: " + beside, beside <= 40);
    }

    private static String withoutComments(String text) {
        return text.replaceAll("(?s)/\\*.*?\\*/", "").replaceAll("//[^\n]*", "");
    }

    private static void words(String code) {
        due.about("rules 2, 3 and 6");
        for (String word : setOf(WORDS_NOT_USED)) {
            boolean used = Pattern.compile("\\b" + word + "\\b").matcher(code).find();
            due.holds(word + " is not used", !used);
        }
        due.holds("no lambda", !code.contains("->"));
        due.holds("no method reference", !code.contains("::"));
        due.holds("no text", !code.contains("\""));
        due.holds("no annotation", !code.contains("@"));
    }

    private static void objectsMade(String code) {
        due.about("rule 4");
        String field = "(?m)^    private final (\\w+)\\[\\] \\w+ = new \\1\\[[A-Z_]+\\];$";
        int made = (int) Pattern.compile("\\bnew\\b").matcher(code).results().count();
        int arrays = (int) Pattern.compile(field).matcher(code).results().count();
        due.is("all that is made is the arrays of the fields", made, arrays);
    }

    private static void loops(String code) {
        due.about("rule 8");
        String counted = "for \\(int (\\w+) = [^;]+; \\1 <=? [^;]+; \\1\\+\\+\\) \\{";
        int loops = (int) Pattern.compile("\\b(for|while|do)\\b").matcher(code).results().count();
        int bounded = (int) Pattern.compile(counted).matcher(code).results().count();
        due.is("loops with a counter against a bound", bounded, loops);
    }

    /** Each method's lines, by its name; the constructor is among them. */
    private static Map<String, String> bodies(String code) {
        Map<String, String> bodies = new TreeMap<>();
        String head = "(?ms)^    (?:public|private)[^=;{]*?(\\w+)\\([^)]*\\) \\{$(.*?)^    \\}$";
        Matcher methods = Pattern.compile(head).matcher(code);
        while (methods.find()) {
            bodies.put(methods.group(1), methods.group(2));
        }
        return bodies;
    }

    private static void sizeOfMethods(String code) {
        due.about("rule 10");
        Map<String, String> bodies = bodies(code);
        int declared = RevisionedKeys.class.getDeclaredMethods().length;
        due.is("methods found, and the constructor", bodies.size(), declared + 1);
        bodies.forEach((name, body) ->
                due.holds(name + " is short", body.lines().count() <= 60));
    }

    private static void depthOfCalls(String code) {
        due.about("rules 8 and 10");
        Map<String, String> bodies = bodies(code);
        Map<String, Integer> depths = new TreeMap<>();
        // A method is as deep as the deepest that it calls, and one more; one that calls itself,
        // also through others, never gets a depth.
        for (int round = 1; round <= bodies.size(); round++) {
            bodies.forEach((name, body) -> {
                Set<String> called = calledIn(body, bodies.keySet());
                if (depths.keySet().containsAll(called)) {
                    depths.put(name, 1 + called.stream().mapToInt(depths::get).max().orElse(0));
                }
            });
        }
        for (String name : bodies.keySet()) {
            due.holds(name + " is not recursive", depths.containsKey(name));
            due.holds(name + " calls at most six deep", depths.getOrDefault(name, 0) <= 6);
        }
    }

    private static Set<String> calledIn(String body, Set<String> names) {
        Set<String> called = new TreeSet<>();
        Matcher calls = Pattern.compile("\\b(\\w+)\\(").matcher(body);
        while (calls.find()) {
            if (names.contains(calls.group(1))) {
                called.add(calls.group(1));
            }
        }
        return called;
    }

    private static void callsInArguments(String code) {
        due.about("rule 10");
        Matcher calls = Pattern.compile("\\b(\\w+)\\(").matcher(code);
        while (calls.find()) {
            String arguments = upToItsEnd(code, calls.end());
            boolean inside = Pattern.compile("\\w\\(").matcher(arguments).find();
            due.holds("no call inside " + calls.group(1) + "(" + arguments + ")", !inside);
        }
    }

    private static String upToItsEnd(String code, int from) {
        int open = 1;
        int at = from;
        while (at < code.length() && open > 0) {
            char c = code.charAt(at);
            open += c == '(' ? 1 : c == ')' ? -1 : 0;
            at++;
        }
        return code.substring(from, at - 1);
    }
}
