import java.util.ArrayList;
import java.util.List;
import java.util.TreeMap;

/**
 * The document told once more, to be compared with the class. It keeps every change ever made and
 * finds each answer by going through them anew, so that it shares no way of holding the state, and
 * so no fault of it, with the class.
 */
final class Model {
    private record Change(int revision, int key, boolean put, int value, int lease) {}

    private record Fact(int made, int set, int version, int value, int lease) {}

    private static final class Lease {
        int length;
        int end;
    }

    private static final class Watch {
        int a;
        int b;
        int first;
        boolean lost;
        final List<Change> out = new ArrayList<>();
    }

    private final List<Change> all = new ArrayList<>();
    private final TreeMap<Integer, Lease> leases = new TreeMap<>();
    private final TreeMap<Integer, Watch> watches = new TreeMap<>();
    private int revision;
    private int forgotten;
    private int time;

    private static boolean outside(int n, int most) {
        return n < 0 || n > most;
    }

    private TreeMap<Integer, Fact> storeAt(int r) {
        TreeMap<Integer, Fact> store = new TreeMap<>();
        for (Change c : all) {
            if (c.revision > r) {
                break;
            }
            if (!c.put) {
                store.remove(c.key);
                continue;
            }
            Fact old = store.get(c.key);
            int made = old == null ? c.revision : old.made;
            int version = old == null ? 1 : old.version + 1;
            store.put(c.key, new Fact(made, c.revision, version, c.value, c.lease));
        }
        return store;
    }

    private Fact now(int k) {
        return storeAt(revision).get(k);
    }

    private List<Integer> keysAt(int a, int b, int r) {
        List<Integer> keys = new ArrayList<>();
        for (int k : storeAt(r).keySet()) {
            if (k >= a && k <= b) {
                keys.add(k);
            }
        }
        return keys;
    }

    private List<Integer> keysUnder(int l) {
        List<Integer> keys = new ArrayList<>();
        storeAt(revision).forEach((k, fact) -> {
            if (fact.lease == l) {
                keys.add(k);
            }
        });
        return keys;
    }

    private void eraseAll(List<Integer> keys) {
        if (!keys.isEmpty()) {
            revision++;
            for (int k : keys) {
                all.add(new Change(revision, k, false, 0, -1));
            }
        }
    }

    private Integer asked(int r) {
        if (r < forgotten) {
            return Due.FORGOTTEN;
        }
        return r > revision ? Due.LATER : null;
    }

    private List<Change> toHandOut(Watch w) {
        List<Change> list = new ArrayList<>();
        for (Change c : all) {
            if (c.revision >= w.first && c.key >= w.a && c.key <= w.b && !w.out.contains(c)) {
                list.add(c);
            }
        }
        return list;
    }

    int put(int k, int x, int l) {
        if (outside(k, 15) || l < -1 || l > 5) {
            return Due.BAD_ARG;
        }
        if (l >= 0 && !leases.containsKey(l)) {
            return Due.NONE;
        }
        if (remembered() >= 100) {
            return Due.FULL;
        }
        all.add(new Change(++revision, k, true, x, l));
        return revision;
    }

    int swap(int k, int r, int x) {
        if (outside(k, 15)) {
            return Due.BAD_ARG;
        }
        Fact fact = now(k);
        if (fact == null ? r != 0 : fact.set != r) {
            return Due.NONE;
        }
        return put(k, x, fact == null ? -1 : fact.lease);
    }

    int erase(int a, int b) {
        if (outside(a, 15) || outside(b, 15)) {
            return Due.BAD_ARG;
        }
        List<Integer> keys = keysAt(a, b, revision);
        if (keys.isEmpty()) {
            return Due.NONE;
        }
        if (remembered() + keys.size() > 100) {
            return Due.FULL;
        }
        eraseAll(keys);
        return keys.size();
    }

    int revision() {
        return revision;
    }

    int remembered() {
        return (int) all.stream().filter(c -> c.revision > forgotten).count();
    }

    int compact(int r) {
        Integer refusal = asked(r);
        if (refusal != null) {
            return refusal;
        }
        forgotten = r;
        for (Watch w : watches.values()) {
            w.lost |= toHandOut(w).stream().anyMatch(c -> c.revision <= forgotten);
        }
        return remembered();
    }

    int value(int k, int r) {
        int at = r == -1 ? revision : r;
        if (outside(k, 15)) {
            return Due.BAD_ARG;
        }
        if (asked(at) != null) {
            return asked(at);
        }
        Fact fact = storeAt(at).get(k);
        return fact == null ? Due.NONE : fact.value;
    }

    int count(int a, int b, int r) {
        int at = r == -1 ? revision : r;
        if (outside(a, 15) || outside(b, 15)) {
            return Due.BAD_ARG;
        }
        return asked(at) != null ? asked(at) : keysAt(a, b, at).size();
    }

    int keyAt(int a, int b, int i, int r) {
        int many = count(a, b, r);
        if (many < 0) {
            return many;
        }
        return i < 0 || i >= many ? Due.NONE : keysAt(a, b, r == -1 ? revision : r).get(i);
    }

    int made(int k) {
        if (outside(k, 15)) {
            return Due.BAD_ARG;
        }
        return now(k) == null ? Due.NONE : now(k).made;
    }

    int set(int k) {
        if (outside(k, 15)) {
            return Due.BAD_ARG;
        }
        return now(k) == null ? Due.NONE : now(k).set;
    }

    int version(int k) {
        if (outside(k, 15)) {
            return Due.BAD_ARG;
        }
        return now(k) == null ? Due.NONE : now(k).version;
    }

    int leaseOf(int k) {
        if (outside(k, 15)) {
            return Due.BAD_ARG;
        }
        return now(k) == null || now(k).lease == -1 ? Due.NONE : now(k).lease;
    }

    int grant(int l, int length) {
        if (outside(l, 5) || length < 1 || length > 50) {
            return Due.BAD_ARG;
        }
        if (leases.containsKey(l)) {
            return Due.BUSY;
        }
        Lease lease = new Lease();
        lease.length = length;
        leases.put(l, lease);
        return renew(l);
    }

    int renew(int l) {
        if (outside(l, 5)) {
            return Due.BAD_ARG;
        }
        Lease lease = leases.get(l);
        if (lease == null) {
            return Due.NONE;
        }
        lease.end = time + lease.length;
        return lease.end;
    }

    int revoke(int l) {
        if (outside(l, 5)) {
            return Due.BAD_ARG;
        }
        if (leases.remove(l) == null) {
            return Due.NONE;
        }
        List<Integer> keys = keysUnder(l);
        eraseAll(keys);
        return keys.size();
    }

    int remaining(int l) {
        if (outside(l, 5)) {
            return Due.BAD_ARG;
        }
        return leases.containsKey(l) ? leases.get(l).end - time : Due.NONE;
    }

    int keysOf(int l) {
        if (outside(l, 5)) {
            return Due.BAD_ARG;
        }
        return leases.containsKey(l) ? keysUnder(l).size() : 0;
    }

    int advance(int n) {
        if (outside(n, 100)) {
            return Due.BAD_ARG;
        }
        int until = time + n;
        List<int[]> ends = new ArrayList<>();
        leases.forEach((l, lease) -> {
            if (lease.end <= until) {
                ends.add(new int[] {lease.end, l});
            }
        });
        ends.sort((p, q) -> Integer.compare(p[0] * 8 + p[1], q[0] * 8 + q[1]));
        for (int[] end : ends) {
            revoke(end[1]);
        }
        time = until;
        return ends.size();
    }

    int watch(int w, int a, int b, int r) {
        if (outside(w, 3) || outside(a, 15) || outside(b, 15)) {
            return Due.BAD_ARG;
        }
        if (watches.containsKey(w)) {
            return Due.BUSY;
        }
        if (r != -1 && r <= forgotten) {
            return Due.FORGOTTEN;
        }
        Watch made = new Watch();
        made.a = a;
        made.b = b;
        made.first = r == -1 ? revision + 1 : r;
        watches.put(w, made);
        return 0;
    }

    int unwatch(int w) {
        if (outside(w, 3)) {
            return Due.BAD_ARG;
        }
        Watch gone = watches.remove(w);
        if (gone == null) {
            return Due.NONE;
        }
        return gone.lost ? 1 : 0;
    }

    int next(int w) {
        int many = waiting(w);
        if (many <= 0) {
            return many == 0 ? Due.NONE : many;
        }
        Watch open = watches.get(w);
        Change change = toHandOut(open).get(0);
        open.out.add(change);
        return change.revision;
    }

    int handed(int w, int what) {
        if (outside(w, 3) || outside(what, 2)) {
            return Due.BAD_ARG;
        }
        Watch used = watches.get(w);
        if (used == null || used.out.isEmpty()) {
            return Due.NONE;
        }
        Change last = used.out.get(used.out.size() - 1);
        return what == 0 ? last.key : what == 1 ? (last.put ? 1 : 0) : last.value;
    }

    int waiting(int w) {
        if (outside(w, 3)) {
            return Due.BAD_ARG;
        }
        if (!watches.containsKey(w)) {
            return Due.NONE;
        }
        return watches.get(w).lost ? Due.FORGOTTEN : toHandOut(watches.get(w)).size();
    }
}
