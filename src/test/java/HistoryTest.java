/** Promises 7 to 14, each by its sentences: compact, the store as it was, the facts of a key. */
public final class HistoryTest {
    private static final Due due = new Due();

    public static void main(String[] args) throws ReflectiveOperationException {
        due.runAll(HistoryTest.class);
    }

    private static Story story(int promise, String sentence) {
        return new Story(due, promise, sentence);
    }

    /** Revisions 1 to 6; key 4 is there at 1, 2 and from 5 on, key 9 from 2 to 5. */
    private static Story sixRevisions(int promise, String sentence) {
        Story s = story(promise, sentence).is(1, "put", 4, 41, -1).is(2, "put", 9, 92, -1);
        s.is(1, "erase", 0, 8).is(4, "put", 9, 94, -1).is(5, "put", 4, 45, -1);
        return s.is(1, "erase", 9, 15);
    }

    static void compactForgetsWhatIsBelow() {
        Story s = sixRevisions(7, "The forgotten revision becomes r.").is(4, "compact", 2);
        s.is(41, "value", 4, 2).changesNothing(Due.FORGOTTEN, "value", 4, 1).is(3, "compact", 3);
        s.changesNothing(Due.NONE, "value", 4, 3).is(92, "value", 9, 3);
        s.changesNothing(Due.FORGOTTEN, "value", 9, 2).is(94, "value", 9, 4);
    }

    static void compactOfThePresentForgetsAll() {
        Story s = sixRevisions(7, "The forgotten revision becomes r.").is(0, "compact", 6);
        s.is(45, "value", 4, 6).is(45, "value", 4, -1).changesNothing(Due.NONE, "value", 9, 6);
        s.changesNothing(Due.FORGOTTEN, "value", 9, 5).is(7, "put", 9, 97, -1);
        s.is(97, "value", 9, 7);
        s.changesNothing(Due.NONE, "value", 9, 6).is(45, "value", 4, 7);
    }

    static void compactOfTheForgottenOneIsAllowed() {
        Story s = sixRevisions(7, "r below the forgotten one answers FORGOTTEN");
        s.changesNothing(6, "compact", 0).is(4, "compact", 2).changesNothing(4, "compact", 2);
        s.is(0, "compact", 6).changesNothing(0, "compact", 6);
        story(7, "r below the forgotten one answers FORGOTTEN").changesNothing(0, "compact", 0);
    }

    static void compactRefusesWhatIsBelow() {
        Story s = sixRevisions(7, "r below the forgotten one answers FORGOTTEN");
        s.is(0, "watch", 0, 0, 15, 1).is(0, "watch", 1, 0, 15, 5);
        s.changesNothing(Due.FORGOTTEN, "compact", -1).changesNothing(Due.FORGOTTEN, "compact", -2);
        s.changesNothing(Due.FORGOTTEN, "compact", Integer.MIN_VALUE).is(2, "compact", 4);
        for (int r = -2; r <= 3; r++) {
            s.changesNothing(Due.FORGOTTEN, "compact", r);
        }
        s.changesNothing(Due.FORGOTTEN, "compact", Integer.MIN_VALUE).is(94, "value", 9, 4);
    }

    static void compactRefusesWhatIsAbove() {
        Story s = sixRevisions(7, "above the present one, LATER").is(0, "watch", 0, 0, 15, 1);
        s.changesNothing(Due.LATER, "compact", 7).changesNothing(Due.LATER, "compact", 8);
        s.changesNothing(Due.LATER, "compact", Integer.MAX_VALUE).is(0, "compact", 6);
        s.changesNothing(Due.LATER, "compact", 7).is(7, "put", 0, 5, -1).is(0, "compact", 7);
        story(7, "above the present one, LATER").changesNothing(Due.LATER, "compact", 1);
    }

    static void compactAnswersHowManyAreRememberedThen() {
        Story s = sixRevisions(7, "Otherwise the number of changes remembered then.");
        s.is(7, "put", 9, 97, -1).is(8, "put", 10, 98, -1).is(3, "erase", 0, 15);
        s.is(11, "compact", 0).is(10, "compact", 1).is(3, "compact", 8).is(0, "compact", 9);
    }

    static void compactOfAFullStoreMakesRoom() {
        Story s = story(7, "Otherwise the number of changes remembered then.").putsUpTo(100);
        s.is(60, "compact", 40).is(60, "remembered").putsUpTo(140).is(100, "remembered");
        s.changesNothing(Due.FULL, "put", 0, 5, -1).is(0, "compact", 140).is(141, "put", 0, 5, -1);
    }

    static void compactKeepsTheStore() {
        Story s = sixRevisions(7, "The forgotten revision becomes r.").is(7, "grant", 2, 7);
        s.is(7, "put", 0, 7, 2).is(0, "compact", 7).is(7, "revision").is(2, "count", 0, 15, -1);
        s.is(2, "leaseOf", 0).is(1, "keysOf", 2).is(7, "remaining", 2).is(5, "made", 4);
        s.is(8, "swap", 4, 5, 48).is(45, "value", 4, 7).is(48, "value", 4, 8);
    }

    static void valueIsTheOneOfThatRevision() {
        Story s = sixRevisions(8, "The value of key k at revision r");
        int[] four = {Due.NONE, 41, 41, Due.NONE, Due.NONE, 45, 45};
        int[] nine = {Due.NONE, Due.NONE, 92, 92, 94, 94, Due.NONE};
        for (int r = 0; r <= 6; r++) {
            s.is(four[r], "value", 4, r).is(nine[r], "value", 9, r).is(Due.NONE, "value", 5, r);
        }
    }

    static void valueAtMinusOneIsThePresentOne() {
        Story s = story(8, "r = -1: the present one").is(Due.NONE, "value", 4, -1);
        s.is(1, "put", 4, 41, -1).is(41, "value", 4, -1).is(2, "put", 4, 42, -1);
        s.is(42, "value", 4, -1).is(0, "compact", 2).is(42, "value", 4, -1).is(1, "erase", 4, 4);
        s.is(Due.NONE, "value", 4, -1);
    }

    static void valueRefusesWhatIsForgotten() {
        Story s = sixRevisions(8, "Tested in this order: FORGOTTEN");
        s.changesNothing(Due.FORGOTTEN, "value", 4, -2);
        s.changesNothing(Due.FORGOTTEN, "value", 4, Integer.MIN_VALUE).is(3, "compact", 3);
        s.changesNothing(Due.FORGOTTEN, "value", 9, 2).changesNothing(Due.FORGOTTEN, "value", 9, 0);
        s.changesNothing(Due.FORGOTTEN, "value", 9, -2).is(92, "value", 9, 3);
    }

    static void valueRefusesWhatIsNotYet() {
        Story s = sixRevisions(8, "Tested in this order: FORGOTTEN; LATER");
        s.is(45, "value", 4, 6).changesNothing(Due.LATER, "value", 4, 7);
        s.changesNothing(Due.LATER, "value", 4, Integer.MAX_VALUE).is(0, "compact", 6);
        s.is(45, "value", 4, 6).changesNothing(Due.LATER, "value", 4, 7);
        story(8, "LATER").changesNothing(Due.LATER, "value", 4, 1);
    }

    static void valueRefusesIfItDidNotExistThen() {
        Story s = sixRevisions(8, "NONE if it did not exist then").is(2, "compact", 4);
        s.changesNothing(Due.NONE, "value", 4, 4).changesNothing(Due.NONE, "value", 9, 6);
        s.changesNothing(Due.NONE, "value", 9, -1).changesNothing(Due.NONE, "value", 0, 5);
    }

    static void valueTestsInOrder() {
        Story s = sixRevisions(8, "Tested in this order: FORGOTTEN; LATER; NONE");
        s.is(3, "compact", 3);
        s.changesNothing(Due.FORGOTTEN, "value", 5, 2).changesNothing(Due.LATER, "value", 5, 7);
        s.changesNothing(Due.NONE, "value", 5, 3).changesNothing(Due.NONE, "value", 5, 6);
    }

    static void countIsTheOneOfThatRevision() {
        Story s = sixRevisions(9, "The number of keys of the range that existed at revision r");
        int[] all = {0, 1, 2, 1, 1, 2, 1};
        for (int r = 0; r <= 6; r++) {
            s.is(all[r], "count", 0, 15, r);
        }
        s.is(2, "count", 4, 9, 5).is(1, "count", 4, 4, 5).is(1, "count", 9, 9, 5);
        s.is(0, "count", 5, 8, 5).is(0, "count", 10, 15, 5).is(0, "count", 9, 4, 5);
        s.is(1, "compact", 5).is(2, "count", 0, 15, 5).is(1, "count", 0, 15, 6);
    }

    static void countAtMinusOneIsThePresentOne() {
        Story s = story(9, "-1: the present one").is(0, "count", 0, 15, -1).putsUpTo(16);
        s.is(16, "count", 0, 15, -1).is(0, "compact", 16).is(16, "count", 0, 15, -1);
        s.is(5, "erase", 0, 4).is(11, "count", 0, 15, -1);
    }

    static void countRefusesAsValue() {
        Story s = sixRevisions(9, "FORGOTTEN, LATER as for value.");
        s.changesNothing(Due.FORGOTTEN, "count", 0, 15, -2).is(4, "compact", 2);
        s.changesNothing(Due.FORGOTTEN, "count", 0, 15, 1).is(2, "count", 0, 15, 2);
        s.changesNothing(Due.FORGOTTEN, "count", 0, 15, Integer.MIN_VALUE).is(1, "count", 0, 15, 6);
        s.changesNothing(Due.LATER, "count", 0, 15, 7);
        s.changesNothing(Due.LATER, "count", 0, 15, Integer.MAX_VALUE);
    }

    static void countRefusesAlsoForARangeOfNone() {
        Story s = sixRevisions(9, "FORGOTTEN, LATER as for value.").is(4, "compact", 2);
        s.changesNothing(Due.FORGOTTEN, "count", 1, 0, 1).is(0, "count", 1, 0, 2);
        s.changesNothing(Due.LATER, "count", 1, 0, 7).is(0, "count", 1, 0, 6);
    }

    static void keyAtCountsFromTheLeast() {
        Story s = sixRevisions(10, "Key i (0 is the least) of those").is(4, "keyAt", 0, 15, 0, 2);
        s.is(9, "keyAt", 0, 15, 1, 2).is(9, "keyAt", 0, 15, 0, 3).is(4, "keyAt", 0, 15, 0, -1);
        s.is(9, "keyAt", 5, 15, 0, 5).is(9, "keyAt", 4, 9, 1, 5).is(4, "keyAt", 4, 4, 0, 5);
        s.is(7, "put", 0, 5, -1).is(8, "put", 15, 5, -1).is(0, "keyAt", 0, 15, 0, -1);
        s.is(15, "keyAt", 0, 15, 2, -1).is(15, "keyAt", 15, 15, 0, -1).is(0, "keyAt", 0, 0, 0, 7);
        s.is(2, "compact", 6).is(4, "keyAt", 0, 15, 0, 6).is(4, "keyAt", 0, 15, 1, 7);
    }

    static void keyAtRefusesWhatIsForgotten() {
        Story s = sixRevisions(10, "FORGOTTEN, LATER");
        s.changesNothing(Due.FORGOTTEN, "keyAt", 0, 15, 0, -2).is(4, "compact", 2);
        s.changesNothing(Due.FORGOTTEN, "keyAt", 0, 15, 0, 1);
        s.changesNothing(Due.FORGOTTEN, "keyAt", 0, 15, 0, Integer.MIN_VALUE);
        s.is(4, "keyAt", 0, 15, 0, 2);
    }

    static void keyAtRefusesWhatIsNotYet() {
        Story s = sixRevisions(10, "FORGOTTEN, LATER").is(4, "keyAt", 0, 15, 0, 6);
        s.changesNothing(Due.LATER, "keyAt", 0, 15, 0, 7);
        s.changesNothing(Due.LATER, "keyAt", 0, 15, 0, Integer.MAX_VALUE);
    }

    static void keyAtRefusesIfThereIsNone() {
        Story s = sixRevisions(10, "NONE if there is none");
        s.changesNothing(Due.NONE, "keyAt", 0, 15, 2, 2);
        s.changesNothing(Due.NONE, "keyAt", 0, 15, -1, 2);
        s.changesNothing(Due.NONE, "keyAt", 0, 15, 1, -1);
        s.changesNothing(Due.NONE, "keyAt", 0, 15, 0, 0);
        s.changesNothing(Due.NONE, "keyAt", 9, 4, 0, 5);
        s.changesNothing(Due.NONE, "keyAt", 5, 8, 0, 5);
        for (int wild : Due.WILD) {
            s.changesNothing(Due.NONE, "keyAt", 0, 15, wild, 2);
        }
    }

    static void keyAtOfAllKeysHasSixteen() {
        Story s = story(10, "NONE if there is none").putsUpTo(16).is(15, "keyAt", 0, 15, 15, -1);
        s.changesNothing(Due.NONE, "keyAt", 0, 15, 16, -1);
    }

    static void keyAtTestsInOrder() {
        Story s = sixRevisions(10, "FORGOTTEN, LATER; NONE if there is none").is(4, "compact", 2);
        s.changesNothing(Due.FORGOTTEN, "keyAt", 1, 0, 99, 1);
        s.changesNothing(Due.FORGOTTEN, "keyAt", 0, 15, -1, 1);
        s.changesNothing(Due.LATER, "keyAt", 1, 0, 99, 7);
        s.changesNothing(Due.LATER, "keyAt", 0, 15, -1, 7);
    }

    /** Keys 0 and 15: each made, set, put under a lease, erased and made anew. */
    private static Story lives(int promise, String sentence) {
        Story s = story(promise, sentence).is(9, "grant", 0, 9).is(9, "grant", 5, 9);
        return s.is(1, "put", 15, 5, -1).is(2, "put", 0, 5, 0);
    }

    static void madeIsTheRevisionOfTheMaking() {
        Story s = lives(11, "The revision at which key k was made").is(1, "made", 15);
        s.is(2, "made", 0);
        s.is(3, "put", 15, 5, 5).is(4, "swap", 15, 3, 5).is(1, "made", 15).is(0, "compact", 4);
        s.is(1, "made", 15).is(2, "made", 0).is(1, "erase", 15, 15).is(6, "put", 15, 5, -1);
        s.is(6, "made", 15).is(1, "revoke", 0).is(8, "swap", 0, 0, 5).is(8, "made", 0);
    }

    static void setIsTheRevisionOfTheLastPut() {
        Story s = lives(12, "The revision at which key k was set").is(1, "set", 15).is(2, "set", 0);
        s.is(3, "put", 15, 5, 5).is(3, "set", 15).is(4, "swap", 15, 3, 5).is(4, "set", 15);
        s.is(0, "compact", 4).is(4, "set", 15).is(2, "set", 0).is(1, "erase", 15, 15);
        s.is(6, "put", 15, 5, -1).is(6, "set", 15).is(2, "set", 0);
    }

    static void versionIsTheNumberOfPuts() {
        Story s = lives(13, "The version of key k").is(1, "version", 15).is(1, "version", 0);
        s.is(3, "put", 15, 5, 5).is(2, "version", 15).is(4, "swap", 15, 3, 5).is(3, "version", 15);
        s.is(0, "compact", 4).is(3, "version", 15).is(5, "put", 15, 5, -1).is(4, "version", 15);
        s.is(1, "erase", 15, 15).is(7, "put", 15, 5, -1).is(1, "version", 15).is(1, "version", 0);
        s.is(1, "revoke", 0).is(9, "put", 0, 5, -1).is(1, "version", 0);
    }

    static void leaseOfIsTheLeaseOfNow() {
        Story s = lives(14, "The lease that key k stands under").is(0, "leaseOf", 0);
        s.is(3, "put", 15, 5, 5).is(5, "leaseOf", 15).is(4, "swap", 15, 3, 5).is(5, "leaseOf", 15);
        s.is(0, "compact", 4).is(5, "leaseOf", 15).is(5, "put", 15, 5, 0).is(0, "leaseOf", 15);
    }

    private static void isNoneIfItDoesNotExist(int promise, String sentence, String call) {
        Story s = story(promise, sentence).changesNothing(Due.NONE, call, 0);
        s.changesNothing(Due.NONE, call, 15).is(9, "grant", 0, 9).is(1, "put", 3, 5, 0);
        s.changesNothing(Due.NONE, call, 2).changesNothing(Due.NONE, call, 4).is(1, "erase", 3, 3);
        s.changesNothing(Due.NONE, call, 3).is(3, "put", 3, 5, 0).is(1, "advance", 9);
        s.changesNothing(Due.NONE, call, 3).is(18, "grant", 0, 9).is(5, "put", 3, 5, 0);
        s.is(1, "revoke", 0).changesNothing(Due.NONE, call, 3).is(0, "compact", 6);
        s.changesNothing(Due.NONE, call, 3);
    }

    static void madeIsNoneIfItDoesNotExist() {
        isNoneIfItDoesNotExist(11, "NONE if it does not exist", "made");
    }

    static void setIsNoneIfItDoesNotExist() {
        isNoneIfItDoesNotExist(12, "NONE if it does not exist", "set");
    }

    static void versionIsNoneIfItDoesNotExist() {
        isNoneIfItDoesNotExist(13, "NONE if it does not exist", "version");
    }

    static void leaseOfIsNoneIfItDoesNotExist() {
        isNoneIfItDoesNotExist(14, "or it does not exist", "leaseOf");
    }

    static void leaseOfIsNoneIfUnderNone() {
        Story s = story(14, "NONE if under none").is(9, "grant", 0, 9).is(1, "put", 3, 5, -1);
        s.changesNothing(Due.NONE, "leaseOf", 3).is(2, "put", 3, 5, 0).is(3, "put", 3, 5, -1);
        s.changesNothing(Due.NONE, "leaseOf", 3).is(4, "swap", 3, 3, 5).is(5, "swap", 4, 0, 5);
        s.changesNothing(Due.NONE, "leaseOf", 3).changesNothing(Due.NONE, "leaseOf", 4);
    }
}
