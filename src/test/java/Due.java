import java.lang.reflect.InvocationTargetException;
import java.lang.reflect.Method;
import java.lang.reflect.Modifier;
import java.util.Map;
import java.util.TreeMap;

/** Counts the calls of one test whose answer is not the one that is due. */
final class Due {
    static final int BAD_ARG = -1000000001;
    static final int FULL = -1000000002;
    static final int NONE = -1000000003;
    static final int FORGOTTEN = -1000000004;
    static final int LATER = -1000000005;
    static final int BUSY = -1000000006;

    /** Whole numbers outside every range of the document, the farthest ones among them. */
    static final int[] WILD = {
        Integer.MIN_VALUE, Integer.MIN_VALUE + 1, -1000000003, -1000, 1000, 1000000003,
        Integer.MAX_VALUE - 1, Integer.MAX_VALUE
    };

    private int wrong;
    private int seen;
    private String about = "";

    /** Names what the calls after this one test. */
    void about(String text) {
        about = text;
    }

    void is(String call, int got, int want) {
        seen++;
        if (got != want) {
            wrong++;
            System.out.println(about + ": " + call + " answered " + got + ", due is " + want);
        }
    }

    void holds(String what, boolean so) {
        is(what, so ? 1 : 0, 1);
    }

    /**
     * Runs each static method of a test that takes and answers nothing: a list of them by hand
     * could leave one out, and nobody would see it.
     */
    void runAll(Class<?> test) throws IllegalAccessException, InvocationTargetException {
        Map<String, Method> parts = new TreeMap<>();
        for (Method method : test.getDeclaredMethods()) {
            boolean part = Modifier.isStatic(method.getModifiers()) && !method.isSynthetic()
                    && method.getParameterCount() == 0 && method.getReturnType() == void.class;
            if (part) {
                parts.put(method.getName(), method);
            }
        }
        for (Method part : parts.values()) {
            part.invoke(null);
        }
        System.out.print(parts.size() + " parts, ");
        end();
    }

    /** Ends the test: with exit code 1 if a call was wrong, or if nothing was tested. */
    void end() {
        System.out.println(wrong + " of " + seen + " answers are not as due");
        if (wrong != 0 || seen == 0) {
            System.exit(1);
        }
    }
}
