/** Promises 15 to 20: grant, renew, revoke, remaining, keysOf, advance. */
public final class LeasesTest {
    private static final Due due = new Due();

    public static void main(String[] args) {
        grantOrdinary();
        grantRefusals();
        renewOrdinary();
        revokeOrdinary();
        remainingOrdinary();
        keysOfOrdinary();
        advanceOrdinary();
        advanceOrder();
        advanceOrderAtOneTime();
        advanceRefusals();
        endingIsNeverRefused();
        mostThatCanBeRemembered();
        due.end();
    }

    private static void grantOrdinary() {
        due.about("promise 15");
        RevisionedKeys x = new RevisionedKeys();
        due.is("shortest", x.grant(0, 1), 1);
        due.is("longest", x.grant(5, 50), 50);
        due.is("advance", x.advance(7), 1);
        due.is("from now on", x.grant(1, 3), 10);
        due.is("one that has ended", x.grant(0, 2), 9);
        due.is("remaining", x.remaining(0), 2);
        due.is("open one can be put under", x.put(0, 1, 0), 1);
        due.is("revoke", x.revoke(0), 1);
        due.is("one that was revoked", x.grant(0, 9), 16);
        due.is("its keys are not there again", x.keysOf(0), 0);
    }

    private static void grantRefusals() {
        due.about("promise 15, refusals");
        RevisionedKeys x = new RevisionedKeys();
        due.is("lease -1", x.grant(-1, 1), Due.BAD_ARG);
        due.is("lease 6", x.grant(6, 1), Due.BAD_ARG);
        due.is("length 0", x.grant(0, 0), Due.BAD_ARG);
        due.is("length 51", x.grant(0, 51), Due.BAD_ARG);
        due.is("length -1", x.grant(0, -1), Due.BAD_ARG);
        for (int wild : Due.WILD) {
            due.is("wild lease", x.grant(wild, 1), Due.BAD_ARG);
            due.is("wild length", x.grant(0, wild), wild == 17 ? 17 : Due.BAD_ARG);
        }
        due.is("open", x.grant(0, 3), Due.BUSY);
        due.is("BAD_ARG before BUSY", x.grant(0, 0), Due.BAD_ARG);
        due.is("BAD_ARG before BUSY", x.grant(0, 51), Due.BAD_ARG);
        due.is("nothing was changed", x.remaining(0), 17);
        due.is("nothing was changed", x.renew(0), 17);
    }

    private static void renewOrdinary() {
        due.about("promise 16");
        RevisionedKeys x = new RevisionedKeys();
        due.is("grant", x.grant(3, 10), 10);
        due.is("put", x.put(1, 1, 3), 1);
        due.is("at once", x.renew(3), 10);
        due.is("advance", x.advance(9), 0);
        due.is("its length from now on", x.renew(3), 19);
        due.is("not at its first end", x.advance(9), 0);
        due.is("remaining", x.remaining(3), 1);
        due.is("at its new end", x.advance(1), 1);
        due.is("its key is erased", x.value(1, -1), Due.NONE);
        due.is("ended", x.renew(3), Due.NONE);
        due.is("never open", x.renew(4), Due.NONE);
        due.is("another length", x.grant(3, 4), 23);
        due.is("advance", x.advance(1), 0);
        due.is("the new length counts", x.renew(3), 24);
        due.is("lease -1", x.renew(-1), Due.BAD_ARG);
        due.is("lease 6", x.renew(6), Due.BAD_ARG);
        for (int wild : Due.WILD) {
            due.is("wild lease", x.renew(wild), Due.BAD_ARG);
        }
    }

    private static void revokeOrdinary() {
        due.about("promise 17");
        RevisionedKeys x = new RevisionedKeys();
        due.is("grant", x.grant(2, 5), 5);
        due.is("grant", x.grant(4, 5), 5);
        due.is("no keys", x.revoke(4), 0);
        due.is("no writing", x.revision(), 0);
        due.is("not open now", x.revoke(4), Due.NONE);
        due.is("put 9", x.put(9, 1, 2), 1);
        due.is("put 3", x.put(3, 1, 2), 2);
        due.is("put 6", x.put(6, 1, -1), 3);
        due.is("watch", x.watch(0, 0, 15, -1), 0);
        due.is("two keys", x.revoke(2), 2);
        due.is("one writing", x.revision(), 4);
        due.is("two changes", x.remembered(), 5);
        due.is("the other key stays", x.value(6, -1), 1);
        due.is("by key", x.next(0), 4);
        due.is("by key", x.handed(0, 0), 3);
        due.is("by key", x.next(0), 4);
        due.is("by key", x.handed(0, 0), 9);
        due.is("no more", x.next(0), Due.NONE);
        due.is("not open now", x.revoke(2), Due.NONE);
        due.is("not open now", x.remaining(2), Due.NONE);
        due.is("put under it", x.put(0, 1, 2), Due.NONE);
        due.is("does not end again", x.advance(100), 0);
        due.is("lease -1", x.revoke(-1), Due.BAD_ARG);
        due.is("lease 6", x.revoke(6), Due.BAD_ARG);
        for (int wild : Due.WILD) {
            due.is("wild lease", x.revoke(wild), Due.BAD_ARG);
        }
    }

    private static void remainingOrdinary() {
        due.about("promise 18");
        RevisionedKeys x = new RevisionedKeys();
        due.is("never open", x.remaining(1), Due.NONE);
        due.is("grant", x.grant(1, 20), 20);
        due.is("whole", x.remaining(1), 20);
        due.is("advance", x.advance(19), 0);
        due.is("the last", x.remaining(1), 1);
        due.is("renew", x.renew(1), 39);
        due.is("whole again", x.remaining(1), 20);
        due.is("advance", x.advance(20), 1);
        due.is("ended", x.remaining(1), Due.NONE);
        due.is("lease -1", x.remaining(-1), Due.BAD_ARG);
        due.is("lease 6", x.remaining(6), Due.BAD_ARG);
        for (int wild : Due.WILD) {
            due.is("wild lease", x.remaining(wild), Due.BAD_ARG);
        }
    }

    private static void keysOfOrdinary() {
        due.about("promise 19");
        RevisionedKeys x = new RevisionedKeys();
        due.is("not open", x.keysOf(0), 0);
        due.is("grant", x.grant(0, 5), 5);
        due.is("grant", x.grant(5, 6), 6);
        due.is("none yet", x.keysOf(0), 0);
        due.is("put 0", x.put(0, 1, 0), 1);
        due.is("put 15", x.put(15, 1, 0), 2);
        due.is("put 7", x.put(7, 1, 5), 3);
        due.is("put 8", x.put(8, 1, -1), 4);
        due.is("two", x.keysOf(0), 2);
        due.is("one", x.keysOf(5), 1);
        due.is("put again", x.put(0, 2, 0), 5);
        due.is("still two", x.keysOf(0), 2);
        due.is("to the other", x.put(0, 2, 5), 6);
        due.is("one", x.keysOf(0), 1);
        due.is("two", x.keysOf(5), 2);
        due.is("erase", x.erase(7, 7), 1);
        due.is("one", x.keysOf(5), 1);
        due.is("advance", x.advance(5), 1);
        due.is("ended", x.keysOf(0), 0);
        due.is("open", x.keysOf(5), 1);
        due.is("lease -1", x.keysOf(-1), Due.BAD_ARG);
        due.is("lease 6", x.keysOf(6), Due.BAD_ARG);
        for (int wild : Due.WILD) {
            due.is("wild lease", x.keysOf(wild), Due.BAD_ARG);
        }
    }

    private static void advanceOrdinary() {
        due.about("promise 20");
        RevisionedKeys x = new RevisionedKeys();
        for (int l = 0; l < 6; l++) {
            due.is("grant", x.grant(l, l + 1), l + 1);
        }
        due.is("put", x.put(3, 1, 3), 1);
        due.is("no time", x.advance(0), 0);
        due.is("one ends", x.advance(1), 1);
        due.is("two end", x.advance(2), 2);
        due.is("without keys no writing", x.revision(), 1);
        due.is("the key is there", x.value(3, -1), 1);
        due.is("no time", x.advance(0), 0);
        due.is("all others end", x.advance(100), 3);
        due.is("one writing", x.revision(), 2);
        due.is("the key is not", x.value(3, -1), Due.NONE);
        due.is("time is 103", x.grant(0, 1), 104);
        due.is("advance", x.advance(100), 1);
        due.is("time is 203", x.grant(0, 50), 253);
    }

    private static void advanceOrder() {
        due.about("promise 20, order of times");
        RevisionedKeys x = new RevisionedKeys();
        due.is("grant", x.grant(0, 9), 9);
        due.is("grant", x.grant(1, 8), 8);
        due.is("put", x.put(5, 1, 0), 1);
        due.is("put", x.put(6, 1, 1), 2);
        due.is("watch", x.watch(0, 0, 15, -1), 0);
        due.is("both end", x.advance(50), 2);
        due.is("two writings", x.revision(), 4);
        due.is("the earlier end first", x.next(0), 3);
        due.is("the earlier end first", x.handed(0, 0), 6);
        due.is("the later end next", x.next(0), 4);
        due.is("the later end next", x.handed(0, 0), 5);
        due.is("between", x.value(5, 3), 1);
    }

    private static void advanceOrderAtOneTime() {
        due.about("promise 20, order at one time");
        RevisionedKeys x = new RevisionedKeys();
        due.is("grant", x.grant(4, 9), 9);
        due.is("grant", x.grant(2, 9), 9);
        due.is("grant", x.grant(3, 9), 9);
        due.is("put", x.put(1, 1, 4), 1);
        due.is("put", x.put(8, 1, 2), 2);
        due.is("put", x.put(7, 1, 2), 3);
        due.is("watch", x.watch(0, 0, 15, -1), 0);
        due.is("all end", x.advance(9), 3);
        due.is("two writings", x.revision(), 5);
        due.is("lease 2 first", x.next(0), 4);
        due.is("lease 2 first", x.handed(0, 0), 7);
        due.is("lease 2 first", x.next(0), 4);
        due.is("lease 2 first", x.handed(0, 0), 8);
        due.is("lease 4 next", x.next(0), 5);
        due.is("lease 4 next", x.handed(0, 0), 1);
    }

    private static void advanceRefusals() {
        due.about("promise 20, refusals");
        RevisionedKeys x = new RevisionedKeys();
        due.is("grant", x.grant(0, 1), 1);
        due.is("-1", x.advance(-1), Due.BAD_ARG);
        due.is("101", x.advance(101), Due.BAD_ARG);
        for (int wild : Due.WILD) {
            if (wild != 17) {
                due.is("wild", x.advance(wild), Due.BAD_ARG);
            }
        }
        due.is("no time went", x.remaining(0), 1);
    }

    private static void endingIsNeverRefused() {
        due.about("leases that end are not refused");
        RevisionedKeys x = new RevisionedKeys();
        due.is("grant", x.grant(0, 5), 5);
        due.is("grant", x.grant(1, 6), 6);
        for (int i = 1; i <= 100; i++) {
            due.is("put", x.put(i % 4, i, i % 2), i);
        }
        due.is("full", x.put(0, 0, -1), Due.FULL);
        due.is("one ends by time", x.advance(5), 1);
        due.is("remembered", x.remembered(), 102);
        due.is("the other by revoke", x.revoke(1), 2);
        due.is("remembered", x.remembered(), 104);
        due.is("revision", x.revision(), 102);
        due.is("put is refused", x.put(0, 0, -1), Due.FULL);
        due.is("swap is refused", x.swap(0, 0, 0), Due.FULL);
        due.is("not enough is forgotten", x.compact(4), 100);
        due.is("put is refused", x.put(0, 0, -1), Due.FULL);
        due.is("compact", x.compact(5), 99);
        due.is("put", x.put(0, 0, -1), 103);
        due.is("erase", x.erase(0, 0), Due.FULL);
    }

    private static void mostThatCanBeRemembered() {
        due.about("116 remembered");
        RevisionedKeys x = new RevisionedKeys();
        due.is("grant", x.grant(0, 5), 5);
        for (int i = 1; i <= 100; i++) {
            due.is("put", x.put(i % 16, i, 0), i);
        }
        due.is("watch", x.watch(0, 0, 15, 1), 0);
        due.is("all keys end", x.revoke(0), 16);
        due.is("remembered", x.remembered(), 116);
        due.is("waiting", x.waiting(0), 116);
        for (int i = 1; i <= 116; i++) {
            due.is("next", x.next(0), i <= 100 ? i : 101);
        }
        due.is("the last key", x.handed(0, 0), 15);
        due.is("no more", x.next(0), Due.NONE);
        due.is("count", x.count(0, 15, 101), 0);
        due.is("count", x.count(0, 15, 100), 16);
        due.is("compact", x.compact(100), 16);
        due.is("compact", x.compact(101), 0);
    }
}
