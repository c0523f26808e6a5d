import java.lang.reflect.InvocationTargetException;
import java.lang.reflect.Method;
import java.lang.reflect.Modifier;
import java.util.ArrayList;
import java.util.HashMap;
import java.util.List;
import java.util.Map;
import java.util.StringJoiner;

/**
 * A run of calls on a new object, each answer compared with the one that is due. It is kept, so
 * that it can be told again: whether a refused call changed anything is seen only beside a twin on
 * which that call was never made.
 */
final class Story {
    /** Nothing is promised about an object after this many calls, so no test may go beyond. */
    private static final int MOST_CALLS = 512;

    /** 100, and 16 that leases may erase: so many changes can wait for one watch, and one NONE. */
    private static final int MOST_WAITING = 117;

    /** So many revisions are looked at in one twin, lest it be called too often. */
    private static final int REVISIONS_AT_ONCE = 12;

    private static final Map<String, Method> METHODS = new HashMap<>();

    static {
        for (Method method : RevisionedKeys.class.getDeclaredMethods()) {
            METHODS.put(method.getName(), method);
        }
    }

    private record Call(String name, int... args) {
        int on(RevisionedKeys object) {
            Object[] boxed = new Object[args.length];
            for (int i = 0; i < args.length; i++) {
                boxed[i] = args[i];
            }
            try {
                return (int) METHODS.get(name).invoke(object, boxed);
            } catch (InvocationTargetException thrown) {
                throw new IllegalStateException(this + " threw", thrown.getCause());
            } catch (IllegalAccessException hidden) {
                throw new IllegalStateException(this + " is not public", hidden);
            }
        }

        @Override
        public String toString() {
            StringJoiner text = new StringJoiner(", ", name + "(", ")");
            for (int arg : args) {
                text.add(String.valueOf(arg));
            }
            return text.toString();
        }
    }

    private final Due due;
    private final RevisionedKeys object = new RevisionedKeys();
    private final List<Call> all = new ArrayList<>();
    private final List<Call> notRefused = new ArrayList<>();

    /** The sentence is the document's: it is broken if an answer is not as due. */
    Story(Due due, String sentence) {
        this.due = due;
        due.about(sentence);
    }

    Story(Due due, int promise, String sentence) {
        this(due, "promise " + promise + ", \"" + sentence + "\"");
    }

    Story is(int want, String name, int... args) {
        Call call = new Call(name, args);
        make(call, want);
        notRefused.add(call);
        return this;
    }

    /** A call that changes nothing: one that is refused, or one that only asks. */
    Story changesNothing(int want, String name, int... args) {
        Call call = new Call(name, args);
        make(call, want);
        compareTwins(call);
        return this;
    }

    /** Puts keys 1, 2, .. 15, 0, 1 .. in turn, under no lease, up to this revision. */
    Story putsUpTo(int revision) {
        int from = tell(notRefused).revision() + 1;
        for (int r = from; r <= revision; r++) {
            is(r, "put", r % 16, r, -1);
        }
        return this;
    }

    /**
     * A full store: revisions 4 to 103 are remembered. Keys 0 to 14 exist, leases 0 and 1 are open.
     * Watch 0 has handed out one of them, watch 1 is lost and handed none out, watch 2 waits for
     * changes of key 15, watch 3 is not in use. Keys are put in falling order, so that a place
     * among changes that is wrong by one revision passes over a change.
     */
    Story crowded() {
        is(5, "grant", 0, 5).is(9, "grant", 1, 9);
        is(1, "put", 15, 30, 0).is(1, "erase", 15, 15).is(3, "put", 4, 40, 1);
        is(0, "watch", 1, 0, 15, 1).is(0, "watch", 2, 15, 15, 1).is(1, "next", 2).is(2, "next", 2);
        is(0, "compact", 3).is(0, "watch", 0, 0, 15, 4).is(0, "advance", 2);
        for (int r = 4; r <= 103; r++) {
            is(r, "put", 14 - r % 15, r, r % 3 - 1);
        }
        return is(4, "next", 0);
    }

    /** The fullest store there can be: 116 changes at 101 revisions, and no key any more. */
    Story fullest() {
        is(5, "grant", 0, 5);
        for (int r = 1; r <= 100; r++) {
            is(r, "put", r % 16, r, 0);
        }
        return is(16, "revoke", 0);
    }

    /** Makes every public call with every choice of arguments from the given numbers. */
    static void anyCalls(Due due, int[] numbers) {
        for (Method method : METHODS.values()) {
            if (Modifier.isPublic(method.getModifiers())) {
                anyCallsOf(due, method, numbers);
            }
        }
    }

    private static void anyCallsOf(Due due, Method method, int[] numbers) {
        int choices = 1;
        for (int i = 0; i < method.getParameterCount(); i++) {
            choices *= numbers.length;
        }
        Story crowd = null;
        for (int choice = 0; choice < choices; choice++) {
            int[] args = new int[method.getParameterCount()];
            int rest = choice;
            for (int i = 0; i < args.length; i++) {
                args[i] = numbers[rest % numbers.length];
                rest /= numbers.length;
            }
            Call call = new Call(method.getName(), args);
            call.on(new RevisionedKeys());
            if (crowd == null || crowd.all.size() == MOST_CALLS) {
                crowd = new Story(due, "No call ever throws.").crowded();
            }
            crowd.all.add(call);
            call.on(crowd.object);
        }
        due.holds(method.getName() + " was called", choices > 0);
    }

    private void make(Call call, int want) {
        all.add(call);
        due.is(call.toString(), call.on(object), want);
        if (all.size() > MOST_CALLS) {
            due.holds("a story has at most " + MOST_CALLS + " calls", false);
        }
    }

    private static RevisionedKeys tell(List<Call> calls) {
        RevisionedKeys twin = new RevisionedKeys();
        for (Call call : calls) {
            call.on(twin);
        }
        return twin;
    }

    private void compareTwins(Call refused) {
        int revision = tell(notRefused).revision();
        for (List<Call> look : looks(revision)) {
            due.holds("twins are called at most " + MOST_CALLS + " times",
                    all.size() + look.size() <= MOST_CALLS);
            RevisionedKeys asked = tell(all);
            RevisionedKeys neverAsked = tell(notRefused);
            for (Call call : look) {
                int got = call.on(asked);
                int want = call.on(neverAsked);
                if (got != want) {
                    due.is("after " + refused + ", which changes nothing, " + call, got, want);
                    return;
                }
            }
        }
    }

    /** Rows of calls that between them show all that can be seen of an object. */
    private static List<List<Call>> looks(int revision) {
        List<List<Call>> looks = new ArrayList<>();
        looks.add(present());
        looks.add(leases());
        looks.add(keysMadeAnew(revision));
        for (int r = -2; r <= revision + 1; r += REVISIONS_AT_ONCE) {
            looks.add(past(r));
        }
        for (int w = 0; w < 4; w++) {
            looks.add(waitingFor(w));
            looks.add(toComeFor(w, revision));
        }
        return looks;
    }

    private static List<Call> present() {
        List<Call> look = new ArrayList<>();
        look.add(new Call("revision"));
        look.add(new Call("remembered"));
        for (int k = 0; k < 16; k++) {
            look.add(new Call("value", k, -1));
            look.add(new Call("made", k));
            look.add(new Call("set", k));
            look.add(new Call("version", k));
            look.add(new Call("leaseOf", k));
        }
        for (int l = 0; l < 6; l++) {
            look.add(new Call("remaining", l));
            look.add(new Call("keysOf", l));
        }
        for (int w = 0; w < 4; w++) {
            look.add(new Call("waiting", w));
            addHanded(look, w);
        }
        return look;
    }

    private static void addHanded(List<Call> look, int w) {
        for (int what = 0; what <= 2; what++) {
            look.add(new Call("handed", w, what));
        }
    }

    /** Renewing shows a lease's length, granting shows the time, and going on shows the ends. */
    private static List<Call> leases() {
        List<Call> look = new ArrayList<>();
        for (int l = 0; l < 6; l++) {
            look.add(new Call("renew", l));
            look.add(new Call("grant", l, 7));
        }
        for (int step = 0; step <= 50; step++) {
            look.add(new Call("advance", 1));
            look.add(new Call("revision"));
        }
        return look;
    }

    /** A key that is made anew shows whether anything of before is still held. */
    private static List<Call> keysMadeAnew(int revision) {
        List<Call> look = new ArrayList<>();
        look.add(new Call("compact", revision));
        for (int k = 0; k < 16; k++) {
            look.add(new Call("erase", k, k));
            look.add(new Call("swap", k, 0, 5));
            look.add(new Call("made", k));
            look.add(new Call("version", k));
            look.add(new Call("leaseOf", k));
        }
        return look;
    }

    private static List<Call> past(int from) {
        List<Call> look = new ArrayList<>();
        for (int r = from; r < from + REVISIONS_AT_ONCE; r++) {
            for (int k = 0; k < 16; k++) {
                look.add(new Call("value", k, r));
            }
        }
        return look;
    }

    private static List<Call> waitingFor(int w) {
        List<Call> look = new ArrayList<>();
        for (int i = 0; i < MOST_WAITING; i++) {
            look.add(new Call("next", w));
            look.add(new Call("handed", w, 0));
        }
        return look;
    }

    private static List<Call> toComeFor(int w, int revision) {
        List<Call> look = new ArrayList<>();
        for (int i = 0; i < MOST_WAITING; i++) {
            look.add(new Call("next", w));
        }
        look.add(new Call("compact", revision));
        for (int k = 0; k < 16; k++) {
            look.add(new Call("put", k, 1000 + k, -1));
        }
        for (int i = 0; i <= 16; i++) {
            look.add(new Call("next", w));
            addHanded(look, w);
        }
        return look;
    }
}
