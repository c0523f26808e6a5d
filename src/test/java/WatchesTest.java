/** Promises 21 to 25: watch, unwatch, next, handed, waiting. */
public final class WatchesTest {
    private static final Due due = new Due();

    public static void main(String[] args) {
        watchFromTheNext();
        watchFromBefore();
        watchFromLater();
        watchRange();
        watchRefusals();
        unwatchOrdinary();
        nextOrder();
        nextRefusals();
        handedOrdinary();
        handedRefusals();
        handedAfterForgetting();
        waitingOrdinary();
        lostByForgetting();
        notLostWithoutNeed();
        watchesStandAlone();
        due.end();
    }

    /** Puts key r with value 10 * r at each revision r from 1 to 5. */
    private static RevisionedKeys five() {
        RevisionedKeys x = new RevisionedKeys();
        for (int r = 1; r <= 5; r++) {
            due.is("put", x.put(r, 10 * r, -1), r);
        }
        return x;
    }

    private static void watchFromTheNext() {
        due.about("promise 21, r -1");
        RevisionedKeys x = five();
        due.is("watch", x.watch(3, 0, 15, -1), 0);
        due.is("nothing yet", x.next(3), Due.NONE);
        due.is("put", x.put(0, 1, -1), 6);
        due.is("the next", x.next(3), 6);
        due.is("no more", x.next(3), Due.NONE);
        due.is("compact", x.compact(6), 0);
        due.is("from the next, all forgotten", x.watch(0, 0, 15, -1), 0);
        due.is("nothing", x.waiting(0), 0);
    }

    private static void watchFromBefore() {
        due.about("promise 21, r before");
        RevisionedKeys x = five();
        due.is("watch", x.watch(0, 0, 15, 3), 0);
        due.is("r is in", x.next(0), 3);
        due.is("4", x.next(0), 4);
        due.is("5", x.next(0), 5);
        due.is("no more", x.next(0), Due.NONE);
        due.is("erase is to come", x.erase(0, 15), 5);
        due.is("waiting", x.waiting(0), 5);
        due.is("6", x.next(0), 6);
    }

    private static void watchFromLater() {
        due.about("promise 21, r later");
        RevisionedKeys x = five();
        due.is("watch", x.watch(0, 0, 15, 8), 0);
        due.is("watch", x.watch(1, 0, 15, Integer.MAX_VALUE), 0);
        due.is("put", x.put(0, 1, -1), 6);
        due.is("put", x.put(0, 1, -1), 7);
        due.is("not yet", x.waiting(0), 0);
        due.is("not yet", x.next(0), Due.NONE);
        due.is("compact", x.compact(7), 0);
        due.is("not lost", x.waiting(0), 0);
        due.is("put", x.put(9, 1, -1), 8);
        due.is("from 8 on", x.next(0), 8);
        due.is("never", x.next(1), Due.NONE);
        due.is("not lost", x.waiting(1), 0);
    }

    private static void watchRange() {
        due.about("promise 21, range");
        RevisionedKeys x = five();
        due.is("2 to 4", x.watch(0, 2, 4, 1), 0);
        due.is("only 5", x.watch(1, 5, 5, 1), 0);
        due.is("none", x.watch(2, 5, 1, 1), 0);
        due.is("all", x.watch(3, 0, 15, 1), 0);
        due.is("2 to 4", x.waiting(0), 3);
        due.is("only 5", x.waiting(1), 1);
        due.is("none", x.waiting(2), 0);
        due.is("all", x.waiting(3), 5);
        due.is("2", x.next(0), 2);
        due.is("3", x.next(0), 3);
        due.is("4", x.next(0), 4);
        due.is("no more", x.next(0), Due.NONE);
        due.is("5", x.next(1), 5);
        due.is("none", x.next(2), Due.NONE);
    }

    private static void watchRefusals() {
        due.about("promise 21, refusals");
        RevisionedKeys x = five();
        due.is("watch -1", x.watch(-1, 0, 15, 1), Due.BAD_ARG);
        due.is("watch 4", x.watch(4, 0, 15, 1), Due.BAD_ARG);
        due.is("a -1", x.watch(0, -1, 15, 1), Due.BAD_ARG);
        due.is("a 16", x.watch(0, 16, 15, 1), Due.BAD_ARG);
        due.is("b -1", x.watch(0, 0, -1, 1), Due.BAD_ARG);
        due.is("b 16", x.watch(0, 0, 16, 1), Due.BAD_ARG);
        due.is("BAD_ARG before FORGOTTEN", x.watch(0, 0, 16, 0), Due.BAD_ARG);
        for (int wild : Due.WILD) {
            due.is("wild watch", x.watch(wild, 0, 15, 1), Due.BAD_ARG);
            due.is("wild a", x.watch(0, wild, 15, 1), Due.BAD_ARG);
            due.is("wild b", x.watch(0, 0, wild, 1), Due.BAD_ARG);
            if (wild < 0) {
                due.is("wild r", x.watch(0, 0, 15, wild), Due.FORGOTTEN);
            }
        }
        due.is("r 0", x.watch(0, 0, 15, 0), Due.FORGOTTEN);
        due.is("r -2", x.watch(0, 0, 15, -2), Due.FORGOTTEN);
        due.is("not in use", x.waiting(0), Due.NONE);
        due.is("compact", x.compact(3), 2);
        due.is("the forgotten one", x.watch(0, 0, 15, 3), Due.FORGOTTEN);
        due.is("FORGOTTEN though the range has none", x.watch(0, 9, 8, 3), Due.FORGOTTEN);
        due.is("above it", x.watch(0, 0, 15, 4), 0);
        due.is("open", x.watch(0, 0, 15, 5), Due.BUSY);
        due.is("BUSY before FORGOTTEN", x.watch(0, 0, 15, 1), Due.BUSY);
        due.is("BAD_ARG before BUSY", x.watch(0, 0, 16, 5), Due.BAD_ARG);
        due.is("it is as it was", x.waiting(0), 2);
        due.is("compact", x.compact(4), 1);
        due.is("lost", x.watch(0, 0, 15, 5), Due.BUSY);
        due.is("BUSY before FORGOTTEN", x.watch(0, 0, 15, 1), Due.BUSY);
        due.is("lost still", x.next(0), Due.FORGOTTEN);
    }

    private static void unwatchOrdinary() {
        due.about("promise 22");
        RevisionedKeys x = five();
        due.is("not in use", x.unwatch(0), Due.NONE);
        due.is("watch", x.watch(0, 0, 15, 1), 0);
        due.is("watch", x.watch(1, 0, 15, 1), 0);
        due.is("open", x.unwatch(0), 0);
        due.is("not in use now", x.unwatch(0), Due.NONE);
        due.is("not in use now", x.next(0), Due.NONE);
        due.is("compact", x.compact(2), 3);
        due.is("lost", x.unwatch(1), 1);
        due.is("not in use now", x.unwatch(1), Due.NONE);
        due.is("not in use now", x.next(1), Due.NONE);
        due.is("not in use now", x.waiting(1), Due.NONE);
        due.is("anew", x.watch(1, 4, 4, 3), 0);
        due.is("by its new range", x.next(1), 4);
        due.is("by its new range", x.next(1), Due.NONE);
        due.is("open", x.unwatch(1), 0);
        due.is("watch -1", x.unwatch(-1), Due.BAD_ARG);
        due.is("watch 4", x.unwatch(4), Due.BAD_ARG);
        for (int wild : Due.WILD) {
            due.is("wild watch", x.unwatch(wild), Due.BAD_ARG);
        }
    }

    private static void nextOrder() {
        due.about("promise 23, order");
        RevisionedKeys x = five();
        due.is("erase", x.erase(2, 4), 3);
        due.is("put", x.put(3, 7, -1), 7);
        due.is("watch", x.watch(0, 0, 15, 5), 0);
        int[][] changes = {{5, 5, 1, 50}, {6, 2, 0, 0}, {6, 3, 0, 0}, {6, 4, 0, 0}, {7, 3, 1, 7}};
        for (int[] change : changes) {
            due.is("revision", x.next(0), change[0]);
            due.is("key", x.handed(0, 0), change[1]);
            due.is("put", x.handed(0, 1), change[2]);
            due.is("value", x.handed(0, 2), change[3]);
        }
        due.is("no more", x.next(0), Due.NONE);
        due.is("put", x.put(0, 1, -1), 8);
        due.is("one to come", x.next(0), 8);
        due.is("no more", x.next(0), Due.NONE);
    }

    private static void nextRefusals() {
        due.about("promise 23, refusals");
        RevisionedKeys x = five();
        due.is("not in use", x.next(0), Due.NONE);
        due.is("watch -1", x.next(-1), Due.BAD_ARG);
        due.is("watch 4", x.next(4), Due.BAD_ARG);
        for (int wild : Due.WILD) {
            due.is("wild watch", x.next(wild), Due.BAD_ARG);
        }
        due.is("watch", x.watch(0, 0, 15, 1), 0);
        due.is("compact", x.compact(1), 4);
        due.is("lost", x.next(0), Due.FORGOTTEN);
        due.is("put", x.put(0, 1, -1), 6);
        due.is("still lost", x.next(0), Due.FORGOTTEN);
    }

    private static void handedOrdinary() {
        due.about("promise 24");
        RevisionedKeys x = new RevisionedKeys();
        due.is("watch", x.watch(0, 0, 15, 1), 0);
        due.is("put", x.put(15, -5, -1), 1);
        due.is("erase", x.erase(15, 15), 1);
        due.is("put", x.put(0, Due.NONE, -1), 3);
        due.is("handed none out", x.handed(0, 0), Due.NONE);
        due.is("next", x.next(0), 1);
        due.is("key", x.handed(0, 0), 15);
        due.is("put", x.handed(0, 1), 1);
        due.is("value", x.handed(0, 2), -5);
        due.is("again", x.handed(0, 2), -5);
        due.is("next", x.next(0), 2);
        due.is("key", x.handed(0, 0), 15);
        due.is("erased", x.handed(0, 1), 0);
        due.is("no value", x.handed(0, 2), 0);
        due.is("next", x.next(0), 3);
        due.is("key", x.handed(0, 0), 0);
        due.is("put", x.handed(0, 1), 1);
        due.is("value", x.handed(0, 2), Due.NONE);
        due.is("no more", x.next(0), Due.NONE);
        due.is("the last one stays", x.handed(0, 0), 0);
        due.is("the last one stays", x.handed(0, 1), 1);
    }

    private static void handedRefusals() {
        due.about("promise 24, refusals");
        RevisionedKeys x = five();
        due.is("not in use", x.handed(0, 0), Due.NONE);
        due.is("BAD_ARG before NONE", x.handed(0, 3), Due.BAD_ARG);
        due.is("BAD_ARG before NONE", x.handed(0, -1), Due.BAD_ARG);
        due.is("watch -1", x.handed(-1, 0), Due.BAD_ARG);
        due.is("watch 4", x.handed(4, 0), Due.BAD_ARG);
        due.is("watch", x.watch(0, 0, 15, 1), 0);
        due.is("handed none out", x.handed(0, 2), Due.NONE);
        due.is("next", x.next(0), 1);
        for (int wild : Due.WILD) {
            due.is("wild watch", x.handed(wild, 0), Due.BAD_ARG);
            due.is("wild what", x.handed(0, wild), Due.BAD_ARG);
        }
        due.is("what -1", x.handed(0, -1), Due.BAD_ARG);
        due.is("what 3", x.handed(0, 3), Due.BAD_ARG);
        due.is("unwatch", x.unwatch(0), 0);
        due.is("not in use", x.handed(0, 0), Due.NONE);
        due.is("anew", x.watch(0, 0, 15, 1), 0);
        due.is("the new one handed none out", x.handed(0, 0), Due.NONE);
        due.is("the new one hands out what the old one did", x.next(0), 1);
    }

    private static void handedAfterForgetting() {
        due.about("promise 24, forgotten");
        RevisionedKeys x = five();
        due.is("watch", x.watch(0, 0, 15, 1), 0);
        due.is("watch", x.watch(1, 2, 2, 1), 0);
        due.is("next", x.next(0), 1);
        due.is("next", x.next(0), 2);
        due.is("next", x.next(1), 2);
        due.is("compact", x.compact(3), 2);
        due.is("lost", x.next(0), Due.FORGOTTEN);
        due.is("a lost one is in use", x.handed(0, 0), 2);
        due.is("a lost one is in use", x.handed(0, 1), 1);
        due.is("a lost one is in use", x.handed(0, 2), 20);
        due.is("an open one", x.next(1), Due.NONE);
        due.is("an open one", x.handed(1, 2), 20);
        due.is("unwatch", x.unwatch(0), 1);
        due.is("not in use", x.handed(0, 0), Due.NONE);
    }

    private static void waitingOrdinary() {
        due.about("promise 25");
        RevisionedKeys x = five();
        due.is("not in use", x.waiting(2), Due.NONE);
        due.is("watch", x.watch(2, 2, 15, 1), 0);
        for (int left = 4; left > 0; left--) {
            due.is("waiting", x.waiting(2), left);
            due.is("next", x.next(2), 6 - left);
        }
        due.is("none", x.waiting(2), 0);
        due.is("erase", x.erase(0, 3), 3);
        due.is("two of three", x.waiting(2), 2);
        due.is("next", x.next(2), 6);
        due.is("within one revision", x.waiting(2), 1);
        due.is("compact", x.compact(6), 0);
        due.is("lost", x.waiting(2), Due.FORGOTTEN);
        due.is("watch -1", x.waiting(-1), Due.BAD_ARG);
        due.is("watch 4", x.waiting(4), Due.BAD_ARG);
        for (int wild : Due.WILD) {
            due.is("wild watch", x.waiting(wild), Due.BAD_ARG);
        }
    }

    private static void lostByForgetting() {
        due.about("lost watches");
        RevisionedKeys x = five();
        due.is("from 1", x.watch(0, 0, 15, 1), 0);
        due.is("from 3", x.watch(1, 0, 15, 3), 0);
        due.is("from 4", x.watch(2, 0, 15, 4), 0);
        due.is("key 3", x.watch(3, 3, 3, 1), 0);
        due.is("compact", x.compact(2), 3);
        due.is("1 and 2 were still to hand out", x.waiting(0), Due.FORGOTTEN);
        due.is("from 3 all is there", x.waiting(1), 3);
        due.is("key 3 is there", x.waiting(3), 1);
        due.is("compact", x.compact(3), 2);
        due.is("3 was still to hand out", x.waiting(1), Due.FORGOTTEN);
        due.is("from 4 all is there", x.waiting(2), 2);
        due.is("key 3 is forgotten", x.waiting(3), Due.FORGOTTEN);
        due.is("compact", x.compact(5), 0);
        due.is("lost", x.unwatch(2), 1);
    }

    private static void notLostWithoutNeed() {
        due.about("watches that are not lost");
        RevisionedKeys x = five();
        due.is("other keys", x.watch(0, 6, 15, 1), 0);
        due.is("no keys", x.watch(1, 4, 3, 1), 0);
        due.is("handed out", x.watch(2, 1, 2, 1), 0);
        due.is("next", x.next(2), 1);
        due.is("next", x.next(2), 2);
        due.is("refused", x.compact(6), Due.LATER);
        due.is("compact", x.compact(5), 0);
        due.is("open", x.waiting(0), 0);
        due.is("open", x.waiting(1), 0);
        due.is("open", x.waiting(2), 0);
        due.is("put", x.put(2, 1, -1), 6);
        due.is("put", x.put(6, 1, -1), 7);
        due.is("one to come", x.next(2), 6);
        due.is("one to come", x.next(0), 7);
        due.is("refused", x.compact(4), Due.FORGOTTEN);
        due.is("open", x.unwatch(0), 0);
        due.is("open", x.unwatch(1), 0);
        due.is("open", x.unwatch(2), 0);
    }

    private static void watchesStandAlone() {
        due.about("watches do not touch each other");
        RevisionedKeys x = five();
        for (int w = 0; w < 4; w++) {
            due.is("watch", x.watch(w, w, 15, w + 1), 0);
        }
        due.is("next of 1", x.next(1), 2);
        due.is("next of 3", x.next(3), 4);
        due.is("next of 3", x.next(3), 5);
        due.is("waiting", x.waiting(0), 5);
        due.is("waiting", x.waiting(1), 3);
        due.is("waiting", x.waiting(2), 3);
        due.is("waiting", x.waiting(3), 0);
        due.is("handed", x.handed(0, 0), Due.NONE);
        due.is("handed", x.handed(1, 0), 2);
        due.is("handed", x.handed(2, 0), Due.NONE);
        due.is("handed", x.handed(3, 0), 5);
        due.is("unwatch", x.unwatch(3), 0);
        due.is("next of 0", x.next(0), 1);
    }
}
