/** Promises 7 to 14: compact, value, count, keyAt, made, set, version, leaseOf. */
public final class HistoryTest {
    private static final Due due = new Due();

    public static void main(String[] args) {
        compactOrdinary();
        compactRefusals();
        compactKeepsTheStore();
        valueOrdinary();
        valueRefusals();
        countOrdinary();
        countRefusals();
        keyAtOrdinary();
        keyAtRefusals();
        keyFacts();
        keyFactsAfterForgetting();
        keyFactsRefusals();
        due.end();
    }

    /** Revisions 1 to 6; key 4 is there at 1, 2 and from 5 on, key 9 from 2 to 5. */
    private static RevisionedKeys story() {
        RevisionedKeys x = new RevisionedKeys();
        due.is("story 1", x.put(4, 41, -1), 1);
        due.is("story 2", x.put(9, 92, -1), 2);
        due.is("story 3", x.erase(0, 8), 1);
        due.is("story 4", x.put(9, 94, -1), 4);
        due.is("story 5", x.put(4, 45, -1), 5);
        due.is("story 6", x.erase(9, 15), 1);
        return x;
    }

    private static void compactOrdinary() {
        due.about("promise 7");
        RevisionedKeys x = story();
        due.is("nothing to forget", x.compact(0), 6);
        due.is("up to 2", x.compact(2), 4);
        due.is("again", x.compact(2), 4);
        due.is("value at 2", x.value(4, 2), 41);
        due.is("value at 1", x.value(4, 1), Due.FORGOTTEN);
        due.is("up to 3", x.compact(3), 3);
        due.is("value at 3", x.value(4, 3), Due.NONE);
        due.is("value at 3", x.value(9, 3), 92);
        due.is("all", x.compact(6), 0);
        due.is("value at 6", x.value(4, 6), 45);
        due.is("value now", x.value(4, -1), 45);
        due.is("value at 6", x.value(9, 6), Due.NONE);
        due.is("value at 5", x.value(9, 5), Due.FORGOTTEN);

        RevisionedKeys y = story();
        due.is("both erased", y.put(9, 97, -1), 7);
        due.is("both erased", y.erase(0, 15), 2);
        due.is("all changes of one revision stay", y.compact(7), 2);
        due.is("all changes of one revision go", y.compact(8), 0);
    }

    private static void compactRefusals() {
        due.about("promise 7, refusals");
        RevisionedKeys x = story();
        due.is("later", x.compact(7), Due.LATER);
        due.is("-1 is below 0", x.compact(-1), Due.FORGOTTEN);
        due.is("far later", x.compact(Integer.MAX_VALUE), Due.LATER);
        due.is("far below", x.compact(Integer.MIN_VALUE), Due.FORGOTTEN);
        due.is("nothing was forgotten", x.remembered(), 6);
        due.is("compact", x.compact(4), 2);
        due.is("below the forgotten one", x.compact(3), Due.FORGOTTEN);
        due.is("0", x.compact(0), Due.FORGOTTEN);
        due.is("-1", x.compact(-1), Due.FORGOTTEN);
        due.is("nothing was forgotten", x.remembered(), 2);
        due.is("value", x.value(9, 4), 94);
    }

    private static void compactKeepsTheStore() {
        due.about("promise 7, what stays");
        RevisionedKeys x = story();
        due.is("grant", x.grant(2, 7), 7);
        due.is("put", x.put(0, 7, 2), 7);
        due.is("compact", x.compact(7), 0);
        due.is("count", x.count(0, 15, -1), 2);
        due.is("lease", x.leaseOf(0), 2);
        due.is("keysOf", x.keysOf(2), 1);
        due.is("remaining", x.remaining(2), 7);
        due.is("swap", x.swap(4, 5, 48), 8);
        due.is("value before", x.value(4, 7), 45);
        due.is("value after", x.value(4, 8), 48);
    }

    private static void valueOrdinary() {
        due.about("promise 8");
        RevisionedKeys x = story();
        int[] four = {Due.NONE, 41, 41, Due.NONE, Due.NONE, 45, 45};
        int[] nine = {Due.NONE, Due.NONE, 92, 92, 94, 94, Due.NONE};
        for (int r = 0; r <= 6; r++) {
            due.is("value(4, " + r + ")", x.value(4, r), four[r]);
            due.is("value(9, " + r + ")", x.value(9, r), nine[r]);
            due.is("value(5, " + r + ")", x.value(5, r), Due.NONE);
        }
        due.is("now", x.value(4, -1), 45);
        due.is("now", x.value(9, -1), Due.NONE);
    }

    private static void valueRefusals() {
        due.about("promise 8, refusals");
        RevisionedKeys x = story();
        due.is("later", x.value(4, 7), Due.LATER);
        due.is("LATER before NONE", x.value(5, 7), Due.LATER);
        due.is("-2", x.value(4, -2), Due.FORGOTTEN);
        due.is("key -1", x.value(-1, -1), Due.BAD_ARG);
        due.is("key 16", x.value(16, 0), Due.BAD_ARG);
        due.is("BAD_ARG before LATER", x.value(16, 7), Due.BAD_ARG);
        due.is("BAD_ARG before FORGOTTEN", x.value(16, -2), Due.BAD_ARG);
        for (int wild : Due.WILD) {
            due.is("wild key", x.value(wild, 1), Due.BAD_ARG);
            due.is("wild r", x.value(4, wild), wild < 0 ? Due.FORGOTTEN : Due.LATER);
        }
        due.is("compact", x.compact(3), 3);
        due.is("FORGOTTEN before NONE", x.value(5, 2), Due.FORGOTTEN);
        due.is("the forgotten one can be asked", x.value(9, 3), 92);
        due.is("present is not below", x.value(4, -1), 45);
    }

    private static void countOrdinary() {
        due.about("promise 9");
        RevisionedKeys x = story();
        int[] all = {0, 1, 2, 1, 1, 2, 1};
        for (int r = 0; r <= 6; r++) {
            due.is("count(0, 15, " + r + ")", x.count(0, 15, r), all[r]);
        }
        due.is("now", x.count(0, 15, -1), 1);
        due.is("the ends are in", x.count(4, 9, 5), 2);
        due.is("one key", x.count(4, 4, 5), 1);
        due.is("one key", x.count(9, 9, 5), 1);
        due.is("between", x.count(5, 8, 5), 0);
        due.is("above", x.count(10, 15, 5), 0);
        due.is("a above b", x.count(9, 4, 5), 0);
        due.is("compact", x.compact(5), 1);
        due.is("at the forgotten one", x.count(0, 15, 5), 2);
        due.is("after it", x.count(0, 15, 6), 1);
    }

    private static void countRefusals() {
        due.about("promise 9, refusals");
        RevisionedKeys x = story();
        due.is("a -1", x.count(-1, 15, 0), Due.BAD_ARG);
        due.is("b 16", x.count(0, 16, 0), Due.BAD_ARG);
        due.is("a 16", x.count(16, 0, 7), Due.BAD_ARG);
        due.is("b -1", x.count(0, -1, -2), Due.BAD_ARG);
        for (int wild : Due.WILD) {
            due.is("wild a", x.count(wild, 0, 1), Due.BAD_ARG);
            due.is("wild b", x.count(0, wild, 1), Due.BAD_ARG);
            due.is("wild r", x.count(0, 0, wild), wild < 0 ? Due.FORGOTTEN : Due.LATER);
        }
        due.is("later", x.count(0, 15, 7), Due.LATER);
        due.is("later, range of none", x.count(1, 0, 7), Due.LATER);
        due.is("compact", x.compact(2), 4);
        due.is("forgotten", x.count(0, 15, 1), Due.FORGOTTEN);
        due.is("forgotten, range of none", x.count(1, 0, 1), Due.FORGOTTEN);
    }

    private static void keyAtOrdinary() {
        due.about("promise 10");
        RevisionedKeys x = story();
        due.is("the least", x.keyAt(0, 15, 0, 2), 4);
        due.is("the next", x.keyAt(0, 15, 1, 2), 9);
        due.is("no third", x.keyAt(0, 15, 2, 2), Due.NONE);
        due.is("one gone", x.keyAt(0, 15, 0, 3), 9);
        due.is("now", x.keyAt(0, 15, 0, -1), 4);
        due.is("no second now", x.keyAt(0, 15, 1, -1), Due.NONE);
        due.is("counted in the range", x.keyAt(5, 15, 0, 5), 9);
        due.is("the ends are in", x.keyAt(4, 9, 1, 5), 9);
        due.is("a above b", x.keyAt(9, 4, 0, 5), Due.NONE);
        due.is("nothing at 0", x.keyAt(0, 15, 0, 0), Due.NONE);
        due.is("put 0", x.put(0, 1, -1), 7);
        due.is("put 15", x.put(15, 1, -1), 8);
        due.is("key 0", x.keyAt(0, 15, 0, -1), 0);
        due.is("key 15", x.keyAt(0, 15, 2, -1), 15);
    }

    private static void keyAtRefusals() {
        due.about("promise 10, refusals");
        RevisionedKeys x = story();
        due.is("i -1", x.keyAt(0, 15, -1, 2), Due.NONE);
        for (int wild : Due.WILD) {
            due.is("wild i", x.keyAt(0, 15, wild, 2), Due.NONE);
            due.is("wild a", x.keyAt(wild, 15, 0, 2), Due.BAD_ARG);
            due.is("wild b", x.keyAt(0, wild, 0, 2), Due.BAD_ARG);
            due.is("wild r", x.keyAt(0, 15, 0, wild), wild < 0 ? Due.FORGOTTEN : Due.LATER);
        }
        due.is("a -1", x.keyAt(-1, 15, 0, 7), Due.BAD_ARG);
        due.is("b 16", x.keyAt(0, 16, 0, -2), Due.BAD_ARG);
        due.is("later", x.keyAt(0, 15, 0, 7), Due.LATER);
        due.is("LATER before NONE", x.keyAt(0, 15, -1, 7), Due.LATER);
        due.is("compact", x.compact(2), 4);
        due.is("forgotten", x.keyAt(0, 15, 0, 1), Due.FORGOTTEN);
        due.is("FORGOTTEN before NONE", x.keyAt(1, 0, 99, 1), Due.FORGOTTEN);
    }

    private static void facts(RevisionedKeys x, int k, int made, int set, int version, int lease) {
        due.is("made(" + k + ")", x.made(k), made);
        due.is("set(" + k + ")", x.set(k), set);
        due.is("version(" + k + ")", x.version(k), version);
        due.is("leaseOf(" + k + ")", x.leaseOf(k), lease);
    }

    private static void keyFacts() {
        due.about("promises 11 to 14");
        RevisionedKeys x = new RevisionedKeys();
        due.is("grant", x.grant(0, 3), 3);
        due.is("grant", x.grant(5, 3), 3);
        due.is("put", x.put(15, 1, -1), 1);
        due.is("put", x.put(0, 1, 0), 2);
        facts(x, 15, 1, 1, 1, Due.NONE);
        facts(x, 0, 2, 2, 1, 0);
        due.is("put", x.put(15, 1, 5), 3);
        facts(x, 15, 1, 3, 2, 5);
        facts(x, 0, 2, 2, 1, 0);
        due.is("swap", x.swap(15, 3, 1), 4);
        facts(x, 15, 1, 4, 3, 5);
        due.is("refused", x.swap(15, 3, 1), Due.NONE);
        facts(x, 15, 1, 4, 3, 5);
        due.is("erase", x.erase(15, 15), 1);
        facts(x, 15, Due.NONE, Due.NONE, Due.NONE, Due.NONE);
        due.is("put", x.put(15, 1, -1), 6);
        facts(x, 15, 6, 6, 1, Due.NONE);
        due.is("the lease ends", x.revoke(0), 1);
        facts(x, 0, Due.NONE, Due.NONE, Due.NONE, Due.NONE);
        due.is("put", x.put(0, 1, -1), 8);
        facts(x, 0, 8, 8, 1, Due.NONE);
    }

    private static void keyFactsAfterForgetting() {
        due.about("promises 11 to 14, forgotten");
        RevisionedKeys x = story();
        due.is("put", x.put(4, 47, -1), 7);
        due.is("compact", x.compact(7), 0);
        facts(x, 4, 5, 7, 2, Due.NONE);
        facts(x, 9, Due.NONE, Due.NONE, Due.NONE, Due.NONE);
        due.is("put", x.put(4, 48, -1), 8);
        due.is("put", x.put(9, 99, -1), 9);
        facts(x, 4, 5, 8, 3, Due.NONE);
        facts(x, 9, 9, 9, 1, Due.NONE);
    }

    private static void keyFactsRefusals() {
        due.about("promises 11 to 14, refusals");
        RevisionedKeys x = new RevisionedKeys();
        facts(x, -1, Due.BAD_ARG, Due.BAD_ARG, Due.BAD_ARG, Due.BAD_ARG);
        facts(x, 16, Due.BAD_ARG, Due.BAD_ARG, Due.BAD_ARG, Due.BAD_ARG);
        for (int wild : Due.WILD) {
            facts(x, wild, Due.BAD_ARG, Due.BAD_ARG, Due.BAD_ARG, Due.BAD_ARG);
        }
        facts(x, 0, Due.NONE, Due.NONE, Due.NONE, Due.NONE);
        facts(x, 15, Due.NONE, Due.NONE, Due.NONE, Due.NONE);
    }
}
