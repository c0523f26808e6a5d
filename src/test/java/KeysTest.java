/** Promises 1 to 6: a new object, put, swap, erase, revision, remembered. */
public final class KeysTest {
    private static final Due due = new Due();

    public static void main(String[] args) {
        newObject();
        putOrdinary();
        putRefusals();
        putLimit();
        swapOrdinary();
        swapKeepsLease();
        swapRefusals();
        eraseOrdinary();
        eraseRefusals();
        eraseLimit();
        revisionAndRemembered();
        due.end();
    }

    private static RevisionedKeys filled(int changes) {
        RevisionedKeys x = new RevisionedKeys();
        for (int i = 1; i <= changes; i++) {
            due.is("put to fill", x.put(i % 16, i, -1), i);
        }
        return x;
    }

    private static void newObject() {
        due.about("promise 1");
        RevisionedKeys x = new RevisionedKeys();
        due.is("revision", x.revision(), 0);
        due.is("remembered", x.remembered(), 0);
        due.is("count", x.count(0, 15, -1), 0);
        for (int k = 0; k < 16; k++) {
            due.is("value", x.value(k, -1), Due.NONE);
            due.is("value at 0", x.value(k, 0), Due.NONE);
            due.is("leaseOf", x.leaseOf(k), Due.NONE);
            due.is("set", x.set(k), Due.NONE);
        }
        for (int l = 0; l < 6; l++) {
            due.is("remaining", x.remaining(l), Due.NONE);
            due.is("keysOf", x.keysOf(l), 0);
            due.is("put under it", x.put(0, 1, l), Due.NONE);
        }
        for (int w = 0; w < 4; w++) {
            due.is("waiting", x.waiting(w), Due.NONE);
            due.is("next", x.next(w), Due.NONE);
            due.is("handed", x.handed(w, 0), Due.NONE);
            due.is("unwatch", x.unwatch(w), Due.NONE);
        }
        due.is("time is 0", x.grant(0, 1), 1);
        RevisionedKeys y = new RevisionedKeys();
        due.is("put on another object", y.put(0, 1, -1), 1);
        due.is("objects share nothing", x.value(0, -1), Due.NONE);
    }

    private static void putOrdinary() {
        due.about("promise 2");
        RevisionedKeys x = new RevisionedKeys();
        due.is("grant", x.grant(5, 10), 10);
        due.is("grant", x.grant(0, 10), 10);
        due.is("put least key", x.put(0, Integer.MIN_VALUE, -1), 1);
        due.is("put greatest key", x.put(15, Integer.MAX_VALUE, 5), 2);
        due.is("value", x.value(0, -1), Integer.MIN_VALUE);
        due.is("value", x.value(15, -1), Integer.MAX_VALUE);
        due.is("lease", x.leaseOf(0), Due.NONE);
        due.is("lease", x.leaseOf(15), 5);
        due.is("put under another lease", x.put(15, 1, 0), 3);
        due.is("lease", x.leaseOf(15), 0);
        due.is("no more under the old one", x.keysOf(5), 0);
        due.is("put under none", x.put(15, 1, -1), 4);
        due.is("lease", x.leaseOf(15), Due.NONE);
        due.is("under none", x.keysOf(0), 0);
        due.is("the same value is a change too", x.put(15, 1, -1), 5);
        due.is("remembered", x.remembered(), 5);
        due.is("a value like a code", x.put(3, Due.NONE, -1), 6);
        due.is("value", x.value(3, -1), Due.NONE);
        due.is("it exists", x.count(3, 3, -1), 1);
    }

    private static void putRefusals() {
        due.about("promise 2, refusals");
        RevisionedKeys x = new RevisionedKeys();
        due.is("key -1", x.put(-1, 0, -1), Due.BAD_ARG);
        due.is("key 16", x.put(16, 0, -1), Due.BAD_ARG);
        due.is("lease -2", x.put(0, 0, -2), Due.BAD_ARG);
        due.is("lease 6", x.put(0, 0, 6), Due.BAD_ARG);
        for (int wild : Due.WILD) {
            due.is("wild key", x.put(wild, 0, -1), Due.BAD_ARG);
            due.is("wild key, lease not open", x.put(wild, 0, 0), Due.BAD_ARG);
            due.is("wild lease", x.put(0, 0, wild), Due.BAD_ARG);
        }
        due.is("lease not open", x.put(0, 0, 3), Due.NONE);
        due.is("nothing was changed", x.revision(), 0);
        due.is("nothing was changed", x.count(0, 15, -1), 0);
        RevisionedKeys full = filled(100);
        due.is("BAD_ARG before FULL", full.put(16, 0, -1), Due.BAD_ARG);
        due.is("BAD_ARG before FULL", full.put(0, 0, 6), Due.BAD_ARG);
        due.is("NONE before FULL", full.put(0, 0, 0), Due.NONE);
        due.is("FULL", full.put(0, 0, -1), Due.FULL);
    }

    private static void putLimit() {
        due.about("promise 2, limit");
        RevisionedKeys x = filled(99);
        due.is("the 100th", x.put(0, 5, -1), 100);
        due.is("the 101st", x.put(0, 6, -1), Due.FULL);
        due.is("it changed nothing", x.value(0, -1), 5);
        due.is("revision", x.revision(), 100);
        due.is("remembered", x.remembered(), 100);
        due.is("compact", x.compact(1), 99);
        due.is("there is room again", x.put(0, 6, -1), 101);
        due.is("for one", x.put(0, 7, -1), Due.FULL);
    }

    private static void swapOrdinary() {
        due.about("promise 3");
        RevisionedKeys x = new RevisionedKeys();
        due.is("make", x.swap(4, 0, 40), 1);
        due.is("value", x.value(4, -1), 40);
        due.is("under no lease", x.leaseOf(4), Due.NONE);
        due.is("exists now", x.swap(4, 0, 41), Due.NONE);
        due.is("set at 1", x.swap(4, 1, 42), 2);
        due.is("made", x.made(4), 1);
        due.is("set", x.set(4), 2);
        due.is("version", x.version(4), 2);
        due.is("no more set at 1", x.swap(4, 1, 43), Due.NONE);
        due.is("not yet", x.swap(4, 3, 43), Due.NONE);
        due.is("value", x.value(4, -1), 42);
        due.is("erase", x.erase(4, 4), 1);
        due.is("set at 2, but erased", x.swap(4, 2, 44), Due.NONE);
        due.is("at the erasing", x.swap(4, 3, 44), Due.NONE);
        due.is("does not exist", x.swap(4, 0, 44), 4);
        due.is("version anew", x.version(4), 1);
        due.is("made anew", x.made(4), 4);
    }

    private static void swapKeepsLease() {
        due.about("promise 3, lease");
        RevisionedKeys x = new RevisionedKeys();
        due.is("grant", x.grant(1, 5), 5);
        due.is("put", x.put(2, 1, 1), 1);
        due.is("swap", x.swap(2, 1, 2), 2);
        due.is("still under it", x.leaseOf(2), 1);
        due.is("put", x.put(3, 1, 1), 3);
        due.is("erase", x.erase(3, 3), 1);
        due.is("make again", x.swap(3, 0, 1), 5);
        due.is("not under the lease of before", x.leaseOf(3), Due.NONE);
        due.is("revoke", x.revoke(1), 1);
        due.is("ended", x.value(2, -1), Due.NONE);
        due.is("not ended", x.value(3, -1), 1);
        due.is("grant again", x.grant(1, 5), 5);
        due.is("make again", x.swap(2, 0, 9), 7);
        due.is("not under the lease of before", x.leaseOf(2), Due.NONE);
    }

    private static void swapRefusals() {
        due.about("promise 3, refusals");
        RevisionedKeys x = new RevisionedKeys();
        due.is("key -1", x.swap(-1, 0, 0), Due.BAD_ARG);
        due.is("key 16", x.swap(16, 0, 0), Due.BAD_ARG);
        due.is("r -1 does not exist", x.swap(0, -1, 0), Due.NONE);
        for (int wild : Due.WILD) {
            due.is("wild key", x.swap(wild, 0, 0), Due.BAD_ARG);
            due.is("wild r", x.swap(0, wild, 0), Due.NONE);
        }
        due.is("put", x.put(0, 7, -1), 1);
        due.is("r -1 is no revision", x.swap(0, -1, 0), Due.NONE);
        for (int wild : Due.WILD) {
            due.is("wild r", x.swap(0, wild, 0), Due.NONE);
        }
        due.is("nothing was changed", x.revision(), 1);
        RevisionedKeys full = filled(100);
        due.is("BAD_ARG before all", full.swap(16, 0, 0), Due.BAD_ARG);
        due.is("NONE before FULL", full.swap(4, 99, 0), Due.NONE);
        due.is("NONE before FULL", full.swap(4, 0, 0), Due.NONE);
        due.is("FULL", full.swap(4, 100, 0), Due.FULL);
        due.is("nothing was changed", full.value(4, -1), 100);
        due.is("compact", full.compact(1), 99);
        due.is("room for one", full.swap(4, 100, 0), 101);
        due.is("FULL again", full.swap(4, 101, 0), Due.FULL);
    }

    private static void eraseOrdinary() {
        due.about("promise 4");
        RevisionedKeys x = filled(16);
        due.is("watch", x.watch(0, 0, 15, -1), 0);
        due.is("the ends are in", x.erase(3, 6), 4);
        due.is("one writing", x.revision(), 17);
        due.is("four changes", x.remembered(), 20);
        due.is("count", x.count(0, 15, -1), 12);
        due.is("below", x.value(2, -1), 2);
        due.is("above", x.value(7, -1), 7);
        for (int k = 3; k <= 6; k++) {
            due.is("erased", x.value(k, -1), Due.NONE);
            due.is("existed before", x.value(k, 16), k);
            due.is("by key", x.next(0), 17);
            due.is("by key", x.handed(0, 0), k);
        }
        due.is("only those that exist", x.erase(0, 7), 4);
        due.is("one key", x.erase(15, 15), 1);
        due.is("all", x.erase(0, 15), 7);
        due.is("revision", x.revision(), 20);
        due.is("remembered", x.remembered(), 32);
    }

    private static void eraseRefusals() {
        due.about("promise 4, refusals");
        RevisionedKeys x = new RevisionedKeys();
        due.is("none", x.erase(0, 15), Due.NONE);
        due.is("put", x.put(5, 1, -1), 1);
        due.is("a -1", x.erase(-1, 15), Due.BAD_ARG);
        due.is("b -1", x.erase(0, -1), Due.BAD_ARG);
        due.is("a 16", x.erase(16, 15), Due.BAD_ARG);
        due.is("b 16", x.erase(0, 16), Due.BAD_ARG);
        for (int wild : Due.WILD) {
            due.is("wild a", x.erase(wild, 15), Due.BAD_ARG);
            due.is("wild b", x.erase(0, wild), Due.BAD_ARG);
        }
        due.is("below", x.erase(0, 4), Due.NONE);
        due.is("above", x.erase(6, 15), Due.NONE);
        due.is("a above b", x.erase(15, 0), Due.NONE);
        due.is("nothing was changed", x.revision(), 1);
        RevisionedKeys full = filled(100);
        due.is("BAD_ARG before FULL", full.erase(0, 16), Due.BAD_ARG);
        due.is("NONE before FULL", full.erase(9, 8), Due.NONE);
        due.is("FULL", full.erase(0, 0), Due.FULL);
    }

    private static void eraseLimit() {
        due.about("promise 4, limit");
        RevisionedKeys x = filled(97);
        due.is("four more are too many", x.erase(0, 3), Due.FULL);
        due.is("none was erased", x.count(0, 15, -1), 16);
        due.is("no writing was made", x.revision(), 97);
        due.is("three more are 100", x.erase(0, 2), 3);
        due.is("remembered", x.remembered(), 100);
        due.is("one more", x.erase(3, 3), Due.FULL);
        due.is("NONE before FULL", x.erase(0, 2), Due.NONE);
        RevisionedKeys y = filled(98);
        due.is("only existing ones count", y.erase(7, 8), 2);
        due.is("compact", y.compact(5), 95);
        due.is("six are too many", y.erase(0, 5), Due.FULL);
        due.is("five of seven", y.erase(4, 10), 5);
    }

    private static void revisionAndRemembered() {
        due.about("promises 5 and 6");
        RevisionedKeys x = new RevisionedKeys();
        due.is("put", x.put(1, 1, -1), 1);
        due.is("put", x.put(2, 1, -1), 2);
        due.is("erase", x.erase(1, 2), 2);
        due.is("revision", x.revision(), 3);
        due.is("remembered", x.remembered(), 4);
        due.is("refused", x.erase(1, 2), Due.NONE);
        due.is("grant is no writing", x.grant(0, 5), 5);
        due.is("revoke of an empty lease is none", x.revoke(0), 0);
        due.is("watch is none", x.watch(0, 0, 15, 1), 0);
        due.is("next is none", x.next(0), 1);
        due.is("revision", x.revision(), 3);
        due.is("remembered", x.remembered(), 4);
        due.is("compact", x.compact(2), 2);
        due.is("compact is no writing", x.revision(), 3);
        due.is("remembered", x.remembered(), 2);
        due.is("compact", x.compact(3), 0);
        due.is("remembered", x.remembered(), 0);
        due.is("put", x.put(2, 1, -1), 4);
        due.is("remembered", x.remembered(), 1);
    }
}
