/** The boundary cases that "What it is" and "Terms" name, each by its sentence. */
public final class TermsTest {
    private static final Due due = new Due();

    /** Numbers at and beside every boundary of the document, and the farthest ones. */
    private static final int[] EDGES = {
        Integer.MIN_VALUE, Due.NONE, -2, -1, 0, 1, 2, 3, 4, 5, 6, 15, 16, 50, 51, 100, 101, 102,
        103, 104, Integer.MAX_VALUE
    };

    public static void main(String[] args) throws ReflectiveOperationException {
        due.runAll(TermsTest.class);
    }

    private static Story story(String sentence) {
        return new Story(due, sentence);
    }

    static void the512thCallIsAnsweredToo() {
        Story s = story("An object is used for at most 512 calls after it has been made");
        for (int r = 1; r <= 500; r++) {
            s.is(r, "put", 0, r, -1);
            if (r % 100 == 0) {
                s.is(0, "compact", r);
            }
        }
        s.is(500, "version", 0).is(1, "made", 0).is(500, "set", 0).is(500, "revision");
        s.is(0, "remembered").is(500, "value", 0, 500).is(501, "put", 0, 9, -1);
    }

    static void timeGoesOnForAll512Calls() {
        Story s = story("An object is used for at most 512 calls after it has been made");
        for (int i = 1; i <= 510; i++) {
            s.is(0, "advance", 100);
        }
        s.is(51050, "grant", 0, 50).is(50, "remaining", 0);
    }

    static void sixteenKeys() {
        Story s = story("KEYS are 0 to 15; a key EXISTS or not; if it does it has a VALUE");
        for (int k = 15; k >= 0; k--) {
            s.is(16 - k, "put", k, 7 * k, -1);
        }
        for (int k = 0; k <= 15; k++) {
            s.is(7 * k, "value", k, -1).is(k, "keyAt", 0, 15, k, -1).is(16 - k, "set", k);
        }
        s.is(16, "count", 0, 15, -1);
    }

    static void revisionIsZeroAtFirst() {
        story("The REVISION is 0 at first.").is(0, "revision").is(1, "put", 0, 5, -1);
    }

    static void aWritingMakesTheRevisionOneMore() {
        Story s = story("A WRITING makes it one more");
        s.is(9, "grant", 0, 9).is(9, "grant", 1, 9).is(0, "revision");
        s.is(1, "put", 0, 5, 0).is(1, "revision");
        s.is(2, "swap", 0, 1, 5).is(2, "revision");
        s.is(3, "put", 1, 5, 0).is(4, "put", 2, 5, -1).is(5, "put", 3, 5, -1).is(6, "put", 4, 5, 1);
        s.is(2, "erase", 2, 3).is(7, "revision");
        s.is(2, "revoke", 0).is(8, "revision");
        s.is(1, "advance", 9).is(9, "revision");
    }

    static void changesOfOneRevisionAreOrderedByKey() {
        Story s = story("changes at the same revision are ordered by key");
        s.is(9, "grant", 0, 9).is(1, "put", 15, 5, 0).is(2, "put", 7, 5, 0).is(3, "put", 0, 5, 0);
        s.is(4, "put", 9, 5, -1).is(5, "put", 8, 5, -1).is(0, "watch", 0, 0, 15, -1);
        s.is(2, "erase", 8, 9).is(3, "revoke", 0);
        int[][] order = {{6, 8}, {6, 9}, {7, 0}, {7, 7}, {7, 15}};
        for (int[] change : order) {
            s.is(change[0], "next", 0).is(change[1], "handed", 0, 0);
        }
    }

    static void madeIsWhereItDidNotExistBefore() {
        Story s = story("MADE at the last revision at which it was put and did not exist before");
        s.is(1, "put", 3, 5, -1).is(2, "put", 3, 5, -1).is(1, "made", 3);
        s.is(1, "erase", 3, 3).is(4, "swap", 3, 0, 5).is(5, "put", 3, 5, -1).is(4, "made", 3);
    }

    static void setIsWhereItWasPutLast() {
        Story s = story("was SET at the last one at which it was put");
        s.is(1, "put", 3, 5, -1).is(1, "set", 3).is(2, "put", 3, 5, -1).is(2, "set", 3);
        s.is(3, "put", 4, 5, -1).is(2, "set", 3).is(4, "swap", 3, 2, 5).is(4, "set", 3);
    }

    static void versionCountsFromTheMaking() {
        Story s = story("its VERSION is the number of times it was put from when it was made on");
        s.is(1, "put", 3, 5, -1).is(1, "version", 3).is(2, "swap", 3, 1, 5).is(2, "version", 3);
        s.is(3, "put", 3, 5, -1).is(3, "version", 3).is(1, "erase", 3, 3);
        s.is(5, "put", 3, 5, -1).is(1, "version", 3);
    }

    static void forgottenRevisionIsZeroAtFirst() {
        Story s = story("The FORGOTTEN revision is 0 at first");
        s.changesNothing(Due.NONE, "value", 0, 0).is(0, "count", 0, 15, 0);
        s.changesNothing(Due.FORGOTTEN, "compact", -1).is(0, "compact", 0);
        s.changesNothing(Due.FORGOTTEN, "watch", 0, 0, 15, 0).is(0, "watch", 0, 0, 15, 1);
    }

    static void revisionsFromTheForgottenToThePresentCanBeAsked() {
        Story s = story("how the store was at revisions from it to the present one can be asked");
        s.putsUpTo(9).is(5, "compact", 4);
        s.changesNothing(Due.FORGOTTEN, "value", 3, 3).is(3, "value", 3, 4).is(4, "value", 4, 4);
        s.changesNothing(Due.NONE, "value", 5, 4).is(5, "value", 5, 5).is(9, "value", 9, 9);
        s.changesNothing(Due.NONE, "value", 9, 8).changesNothing(Due.LATER, "value", 9, 10);
    }

    static void changesAboveTheForgottenRevisionAreRemembered() {
        Story s = story("Changes at revisions above it are REMEMBERED.");
        s.putsUpTo(3).is(3, "erase", 1, 3).is(6, "remembered");
        s.is(5, "compact", 1).is(5, "remembered").is(3, "compact", 3).is(3, "remembered");
        s.is(0, "watch", 0, 0, 15, 4).is(3, "waiting", 0).is(4, "next", 0).is(4, "next", 0);
        s.is(4, "next", 0).is(0, "compact", 4).is(0, "remembered");
    }

    private static final String MORE_THAN_100 =
            "A put or an erasing after which more than 100 would be remembered is refused";

    static void aPutAfterWhichMoreThan100AreRememberedIsRefused() {
        Story s = story(MORE_THAN_100).putsUpTo(99).is(100, "put", 1, 5, -1).is(100, "remembered");
        s.changesNothing(Due.FULL, "put", 1, 5, -1).changesNothing(Due.FULL, "swap", 1, 100, 5);
        s.is(99, "compact", 1).is(101, "swap", 1, 100, 5).is(100, "remembered");
        s.changesNothing(Due.FULL, "put", 1, 5, -1).changesNothing(Due.FULL, "swap", 1, 101, 5);
    }

    static void anErasingAfterWhichMoreThan100AreRememberedIsRefused() {
        Story s = story(MORE_THAN_100).putsUpTo(98);
        s.changesNothing(Due.FULL, "erase", 4, 6).is(2, "erase", 4, 5).is(100, "remembered");
        s.changesNothing(Due.FULL, "erase", 6, 6);
    }

    static void leasesThatEndAreNotRefused() {
        Story s = story("leases that end are not").is(5, "grant", 0, 5).is(6, "grant", 1, 6);
        for (int r = 1; r <= 100; r++) {
            s.is(r, "put", r % 4, r, r % 2);
        }
        s.is(1, "advance", 5).is(102, "remembered").is(101, "revision");
        s.is(2, "revoke", 1).is(104, "remembered").is(102, "revision").is(0, "count", 0, 15, -1);
    }

    static void leasesThatEndCanMake116Remembered() {
        Story s = story("leases that end are not").is(0, "watch", 0, 0, 15, 1).fullest();
        s.is(116, "remembered").is(116, "waiting", 0).is(101, "revision");
        for (int i = 1; i <= 116; i++) {
            s.is(i <= 100 ? i : 101, "next", 0).is(i <= 100 ? i % 16 : i - 101, "handed", 0, 0);
        }
        s.is(0, "waiting", 0).is(Due.NONE, "next", 0);
        s.is(16, "count", 0, 15, 100).is(0, "count", 0, 15, 101);
        s.is(16, "compact", 100).is(0, "compact", 101);
    }

    static void sixLeases() {
        Story s = story("LEASES are 0 to 5; each is OPEN or not.");
        for (int l = 0; l <= 5; l++) {
            s.is(10 + l, "grant", l, 10 + l).is(l + 1, "put", l, 7, l);
        }
        s.is(0, "advance", 9);
        for (int l = 0; l <= 5; l++) {
            s.is(1 + l, "remaining", l).is(l, "leaseOf", l).is(1, "keysOf", l);
        }
        for (int l = 0; l <= 5; l++) {
            s.is(19 + l, "renew", l);
        }
    }

    static void timeIsZeroAtFirst() {
        story("TIME is 0 at first").is(1, "grant", 0, 1).is(50, "grant", 5, 50);
    }

    static void timeGoesOnByAdvanceOnly() {
        Story s = story("goes on by advance only").is(9, "grant", 0, 9).is(4, "grant", 1, 4);
        s.is(1, "put", 0, 5, 0).is(2, "swap", 0, 1, 5).is(1, "erase", 0, 0).is(0, "compact", 3);
        s.is(4, "renew", 1).is(0, "revoke", 1).is(0, "watch", 0, 0, 15, -1).is(4, "put", 0, 5, 0);
        s.is(4, "next", 0).is(0, "unwatch", 0).is(9, "remaining", 0).is(4, "grant", 1, 4);
        s.is(0, "advance", 3).is(6, "remaining", 0).is(1, "remaining", 1);
    }

    static void leasesEndAtEachTimeByRisingNumber() {
        Story s = story("at each time by rising number of leases");
        s.is(9, "grant", 4, 9).is(9, "grant", 2, 9).is(9, "grant", 3, 9).is(9, "grant", 0, 9);
        s.is(1, "put", 1, 5, 4).is(2, "put", 8, 5, 2).is(3, "put", 7, 5, 2).is(4, "put", 9, 5, 0);
        s.is(0, "watch", 0, 0, 15, -1).is(4, "advance", 9).is(7, "revision");
        int[][] order = {{5, 9}, {6, 7}, {6, 8}, {7, 1}};
        for (int[] change : order) {
            s.is(change[0], "next", 0).is(change[1], "handed", 0, 0);
        }
    }

    static void leasesThatEndEarlierEndFirst() {
        Story s = story("When time comes to the end of an open lease");
        s.is(9, "grant", 0, 9).is(8, "grant", 1, 8).is(10, "grant", 2, 10);
        s.is(1, "put", 5, 1, 0).is(2, "put", 6, 2, 1).is(3, "put", 7, 3, 2);
        s.is(3, "advance", 50).is(6, "revision");
        s.is(3, "count", 0, 15, 3).is(2, "count", 0, 15, 4).is(1, "count", 0, 15, 5);
        s.is(1, "value", 5, 4).is(3, "value", 7, 5).is(0, "count", 0, 15, 6);
    }

    static void aLeaseThatEndsIsNotOpenAnyMore() {
        Story s = story("it is not open any more").is(3, "grant", 2, 3).is(1, "put", 0, 5, 2);
        s.is(1, "advance", 3).changesNothing(Due.NONE, "remaining", 2);
        s.changesNothing(Due.NONE, "renew", 2).changesNothing(Due.NONE, "revoke", 2);
        s.changesNothing(Due.NONE, "put", 0, 5, 2).is(0, "keysOf", 2).is(0, "advance", 100);
        s.is(107, "grant", 2, 4);
    }

    static void allKeysOfAnEndedLeaseAreErasedByOneWriting() {
        Story s = story("all keys that stand under it are erased by one writing");
        s.is(3, "grant", 2, 3).is(9, "grant", 3, 9).is(1, "put", 0, 5, 2).is(2, "put", 15, 5, 2);
        s.is(3, "put", 7, 5, 2).is(4, "put", 8, 5, 3).is(5, "put", 9, 5, -1).is(1, "advance", 3);
        s.is(6, "revision").is(8, "remembered").is(2, "count", 0, 15, -1);
        s.is(5, "value", 8, -1).is(5, "value", 9, -1);
    }

    static void keysThatLeftTheLeaseAreNotErased() {
        Story s = story("all keys that stand under it are erased");
        s.is(3, "grant", 2, 3).is(9, "grant", 3, 9).is(1, "put", 0, 5, 2).is(2, "put", 1, 5, 2);
        s.is(3, "put", 2, 5, 2).is(4, "put", 0, 5, -1).is(5, "put", 1, 5, 3).is(1, "erase", 2, 2);
        s.is(7, "swap", 2, 0, 5).is(1, "advance", 3).is(7, "revision").is(3, "count", 0, 15, -1);
    }

    static void aLeaseWithoutKeysEndsByNoWriting() {
        Story s = story("by none if there is no such key").is(3, "grant", 2, 3);
        s.is(4, "grant", 3, 4);
        s.is(1, "put", 0, 5, -1).is(1, "advance", 3).is(1, "revision").is(1, "remembered");
        s.is(0, "revoke", 3).is(1, "revision").is(1, "remembered");
    }

    static void fourWatches() {
        Story s = story("WATCHES are 0 to 3; each is OPEN, LOST or not in use.").putsUpTo(5);
        for (int w = 0; w <= 3; w++) {
            s.is(0, "watch", w, w, 15, w + 1);
        }
        s.is(2, "next", 1).is(4, "next", 3).is(5, "next", 3);
        s.is(5, "waiting", 0).is(3, "waiting", 1).is(3, "waiting", 2).is(0, "waiting", 3);
        s.changesNothing(Due.NONE, "handed", 0, 0).is(2, "handed", 1, 0);
        s.changesNothing(Due.NONE, "handed", 2, 0).is(5, "handed", 3, 0);
        s.is(0, "unwatch", 3).is(1, "next", 0).is(3, "compact", 2);
        s.changesNothing(Due.FORGOTTEN, "waiting", 0).is(3, "waiting", 1).is(3, "waiting", 2);
        s.changesNothing(Due.NONE, "waiting", 3);
    }

    static void aWatchHandsOutAllChangesOfItsRangeOneByOne() {
        Story s = story("it HANDS OUT, one by one in their order, all remembered changes of keys "
                + "in its range").putsUpTo(6).is(0, "watch", 0, 2, 4, 1).is(4, "erase", 1, 4);
        int[][] order = {{2, 2}, {3, 3}, {4, 4}, {7, 2}, {7, 3}, {7, 4}};
        for (int[] change : order) {
            s.is(change[0], "next", 0).is(change[1], "handed", 0, 0);
        }
        s.changesNothing(Due.NONE, "next", 0);
    }

    static void aWatchHandsOutFromItsFirstRevisionOn() {
        Story s = story("from its first revision on").putsUpTo(6).is(0, "watch", 0, 0, 15, 5);
        s.is(0, "watch", 1, 0, 15, 8).is(2, "waiting", 0).is(0, "waiting", 1);
        s.is(5, "next", 0).is(6, "next", 0).changesNothing(Due.NONE, "next", 0);
        s.putsUpTo(8).is(8, "next", 1).changesNothing(Due.NONE, "next", 1);
    }

    static void aWatchHandsOutNoChangeTwice() {
        Story s = story("that it did not hand out before").putsUpTo(3).is(3, "erase", 1, 3);
        s.is(0, "watch", 0, 1, 3, 3);
        int[][] order = {{3, 3}, {4, 1}, {4, 2}, {4, 3}};
        for (int i = 0; i < 4; i++) {
            s.is(4 - i, "waiting", 0).is(order[i][0], "next", 0).is(order[i][1], "handed", 0, 0);
        }
        s.is(0, "waiting", 0).changesNothing(Due.NONE, "next", 0);
    }

    static void aWatchHandsOutThoseToCome() {
        Story s = story("also those to come").is(0, "watch", 0, 0, 15, 1).is(3, "grant", 0, 3);
        s.changesNothing(Due.NONE, "next", 0).is(1, "put", 4, 5, 0).is(1, "next", 0);
        s.changesNothing(Due.NONE, "next", 0).is(2, "swap", 4, 1, 5).is(2, "next", 0);
        s.changesNothing(Due.NONE, "next", 0).is(1, "advance", 3).is(3, "next", 0);
        s.changesNothing(Due.NONE, "next", 0).is(4, "put", 4, 5, -1).is(1, "erase", 0, 15);
        s.is(2, "waiting", 0).is(4, "next", 0).is(5, "next", 0);
    }

    private static final String LOST =
            "If a change that it would still hand out is forgotten it is LOST.";

    static void aWatchIsLostIfAChangeThatItWouldHandOutIsForgotten() {
        Story s = story(LOST).putsUpTo(5);
        s.is(0, "watch", 0, 0, 15, 1).is(0, "watch", 1, 0, 15, 3).is(0, "watch", 2, 3, 3, 1);
        s.is(0, "watch", 3, 0, 15, 1).is(1, "next", 3).is(2, "next", 3).is(3, "compact", 2);
        s.changesNothing(Due.FORGOTTEN, "waiting", 0).is(3, "waiting", 1).is(1, "waiting", 2);
        s.is(3, "waiting", 3).is(2, "compact", 3).changesNothing(Due.FORGOTTEN, "waiting", 1);
        s.changesNothing(Due.FORGOTTEN, "waiting", 2).changesNothing(Due.FORGOTTEN, "waiting", 3);
    }

    static void aWatchIsLostInTheMidstOfARevision() {
        Story s = story(LOST).putsUpTo(3).is(3, "erase", 1, 3).is(0, "watch", 0, 0, 15, 4);
        s.is(0, "watch", 1, 0, 15, 4).is(4, "next", 0).is(4, "next", 0).is(4, "next", 1);
        s.is(4, "next", 1).is(4, "next", 1).is(0, "compact", 4);
        s.changesNothing(Due.FORGOTTEN, "next", 0).changesNothing(Due.NONE, "next", 1);
    }

    static void aWatchIsNotLostByOtherChanges() {
        Story s = story(LOST).putsUpTo(5).is(0, "watch", 0, 6, 15, 1).is(0, "watch", 1, 4, 3, 1);
        s.is(0, "watch", 2, 1, 2, 1).is(0, "watch", 3, 0, 15, 6).is(1, "next", 2).is(2, "next", 2);
        s.is(0, "compact", 5);
        for (int w = 0; w <= 3; w++) {
            s.is(0, "waiting", w);
        }
        s.is(6, "put", 2, 5, -1).is(7, "put", 6, 5, -1);
        s.is(7, "next", 0).changesNothing(Due.NONE, "next", 1).is(6, "next", 2).is(6, "next", 3);
    }

    static void aLostWatchStaysLost() {
        Story s = story(LOST).putsUpTo(2).is(0, "watch", 0, 0, 15, 1).is(1, "compact", 1);
        s.changesNothing(Due.FORGOTTEN, "next", 0).putsUpTo(3).is(0, "compact", 3);
        s.changesNothing(Due.FORGOTTEN, "next", 0).changesNothing(Due.FORGOTTEN, "waiting", 0);
        s.is(1, "unwatch", 0);
    }

    /** The numbers just beside a range that begins at 0, and those far from it. */
    private static int[] outside(int most) {
        int[] numbers = new int[Due.WILD.length + 2];
        numbers[0] = -1;
        numbers[1] = most + 1;
        System.arraycopy(Due.WILD, 0, numbers, 2, Due.WILD.length);
        return numbers;
    }

    private static final String BEFORE_ANYTHING_ELSE =
            "In all calls with keys, leases or watches, a key k not 0 to 15, lease l not 0 to 5 or "
            + "watch w not 0 to 3 answers BAD_ARG before anything else.";

    static void aKeyOutOfRangeIsBadBeforeAnythingElse() {
        for (int k : outside(15)) {
            Story s = story(BEFORE_ANYTHING_ELSE).crowded();
            s.changesNothing(Due.BAD_ARG, "put", k, 5, -1);
            s.changesNothing(Due.BAD_ARG, "put", k, 5, 3);
            s.changesNothing(Due.BAD_ARG, "swap", k, 0, 5);
            s.changesNothing(Due.BAD_ARG, "swap", k, 103, 5);
            s.changesNothing(Due.BAD_ARG, "value", k, -1);
            s.changesNothing(Due.BAD_ARG, "value", k, 2);
            s.changesNothing(Due.BAD_ARG, "value", k, 104);
            s.changesNothing(Due.BAD_ARG, "made", k);
            s.changesNothing(Due.BAD_ARG, "set", k);
            s.changesNothing(Due.BAD_ARG, "version", k);
            s.changesNothing(Due.BAD_ARG, "leaseOf", k);
        }
    }

    static void aLeaseOutOfRangeIsBadBeforeAnythingElse() {
        for (int l : outside(5)) {
            Story s = story(BEFORE_ANYTHING_ELSE).crowded();
            s.changesNothing(Due.BAD_ARG, "grant", l, 5);
            s.changesNothing(Due.BAD_ARG, "grant", l, 51);
            s.changesNothing(Due.BAD_ARG, "renew", l);
            s.changesNothing(Due.BAD_ARG, "revoke", l);
            s.changesNothing(Due.BAD_ARG, "remaining", l);
            s.changesNothing(Due.BAD_ARG, "keysOf", l);
            s.changesNothing(l == -1 ? Due.FULL : Due.BAD_ARG, "put", 0, 5, l);
        }
    }

    static void aWatchOutOfRangeIsBadBeforeAnythingElse() {
        for (int w : outside(3)) {
            Story s = story(BEFORE_ANYTHING_ELSE).crowded();
            s.changesNothing(Due.BAD_ARG, "watch", w, 0, 15, -1);
            s.changesNothing(Due.BAD_ARG, "watch", w, 0, 15, 3);
            s.changesNothing(Due.BAD_ARG, "unwatch", w);
            s.changesNothing(Due.BAD_ARG, "next", w);
            s.changesNothing(Due.BAD_ARG, "handed", w, 0);
            s.changesNothing(Due.BAD_ARG, "handed", w, 3);
            s.changesNothing(Due.BAD_ARG, "waiting", w);
        }
    }

    private static final String RANGE =
            "a or b not 0 to 15 answers BAD_ARG before anything else, too";

    private static void rangeIsBad(int a, int b) {
        Story s = story(RANGE).crowded();
        s.changesNothing(Due.BAD_ARG, "erase", a, b);
        int[] revisions = {-1, 2, 50, 104};
        for (int r : revisions) {
            s.changesNothing(Due.BAD_ARG, "count", a, b, r);
            s.changesNothing(Due.BAD_ARG, "keyAt", a, b, 0, r);
            s.changesNothing(Due.BAD_ARG, "keyAt", a, b, 16, r);
        }
        for (int w = 0; w <= 3; w++) {
            s.changesNothing(Due.BAD_ARG, "watch", w, a, b, 103);
            s.changesNothing(Due.BAD_ARG, "watch", w, a, b, 3);
        }
        // In a store without keys the range would be refused with NONE.
        story(RANGE).changesNothing(Due.BAD_ARG, "erase", a, b);
    }

    static void aRangeWithAKeyOutOfRangeIsBadBeforeAnythingElse() {
        for (int key : outside(15)) {
            rangeIsBad(key, 0);
            rangeIsBad(key, 15);
            rangeIsBad(0, key);
            rangeIsBad(15, key);
            rangeIsBad(key, key);
        }
    }

    static void aRangeHasBothItsEnds() {
        Story s = story("A RANGE has the keys from a to b").putsUpTo(16);
        s.is(3, "count", 4, 6, -1).is(4, "keyAt", 4, 6, 0, -1).is(6, "keyAt", 4, 6, 2, -1);
        s.is(0, "watch", 0, 4, 6, 1).is(3, "waiting", 0).is(4, "next", 0).is(5, "next", 0);
        s.is(6, "next", 0).is(1, "count", 0, 0, -1).is(1, "count", 15, 15, -1);
        s.is(3, "erase", 4, 6).is(3, "value", 3, -1).is(7, "value", 7, -1);
        s.is(1, "erase", 15, 15).is(1, "erase", 0, 0).is(11, "count", 0, 15, -1);
    }

    static void aRangeWithItsFirstKeyAboveItsLastHasNone() {
        int[][] ranges = {{1, 0}, {15, 14}, {15, 0}, {9, 4}};
        for (int[] range : ranges) {
            int a = range[0];
            int b = range[1];
            Story s = story("if a is above b it has none").putsUpTo(16);
            s.changesNothing(Due.NONE, "erase", a, b);
            s.is(0, "count", a, b, -1).is(0, "count", a, b, 8);
            s.changesNothing(Due.NONE, "keyAt", a, b, 0, -1);
            s.is(0, "watch", 0, a, b, 1).is(0, "waiting", 0).changesNothing(Due.NONE, "next", 0);
            s.is(16, "erase", 0, 15).is(0, "waiting", 0).is(0, "compact", 17).is(0, "waiting", 0);
            s.is(0, "unwatch", 0);
        }
    }

    private static final String REFUSED =
            "A refused call answers the code named and changes nothing.";

    static void aRefusedWritingChangesNothing() {
        Story s = story(REFUSED).crowded();
        s.changesNothing(Due.BAD_ARG, "put", 16, 5, 0).changesNothing(Due.BAD_ARG, "put", 4, 5, 6);
        s.changesNothing(Due.NONE, "put", 4, 5, 2).changesNothing(Due.FULL, "put", 4, 5, 0);
        s.changesNothing(Due.BAD_ARG, "swap", 16, 0, 5).changesNothing(Due.NONE, "swap", 4, 4, 5);
        s.changesNothing(Due.FULL, "swap", 4, 100, 5).changesNothing(Due.FULL, "swap", 15, 0, 5);
        s.changesNothing(Due.BAD_ARG, "erase", 0, 16).changesNothing(Due.NONE, "erase", 15, 15);
        s.changesNothing(Due.FULL, "erase", 0, 15).changesNothing(Due.FORGOTTEN, "compact", 2);
        s.changesNothing(Due.LATER, "compact", 104);
    }

    static void aRefusedQuestionChangesNothing() {
        Story s = story(REFUSED).crowded();
        s.changesNothing(Due.BAD_ARG, "value", 16, 50).changesNothing(Due.FORGOTTEN, "value", 4, 2);
        s.changesNothing(Due.LATER, "value", 4, 104).changesNothing(Due.NONE, "value", 5, 3);
        s.changesNothing(Due.BAD_ARG, "count", 0, 16, 50);
        s.changesNothing(Due.FORGOTTEN, "count", 0, 15, 2);
        s.changesNothing(Due.LATER, "count", 0, 15, 104);
        s.changesNothing(Due.BAD_ARG, "keyAt", 0, 16, 0, 50);
        s.changesNothing(Due.FORGOTTEN, "keyAt", 0, 15, 0, 2);
        s.changesNothing(Due.LATER, "keyAt", 0, 15, 0, 104);
        s.changesNothing(Due.NONE, "keyAt", 0, 15, 15, 50);
        s.changesNothing(Due.BAD_ARG, "made", 16).changesNothing(Due.NONE, "made", 15);
        s.changesNothing(Due.BAD_ARG, "set", 16).changesNothing(Due.NONE, "set", 15);
        s.changesNothing(Due.BAD_ARG, "version", 16).changesNothing(Due.NONE, "version", 15);
        s.changesNothing(Due.BAD_ARG, "leaseOf", 16).changesNothing(Due.NONE, "leaseOf", 15);
        s.changesNothing(Due.NONE, "leaseOf", 2);
    }

    static void aRefusedCallOfLeasesChangesNothing() {
        Story s = story(REFUSED).crowded();
        s.changesNothing(Due.BAD_ARG, "grant", 6, 5).changesNothing(Due.BAD_ARG, "grant", 2, 51);
        s.changesNothing(Due.BUSY, "grant", 0, 6);
        s.changesNothing(Due.BAD_ARG, "renew", 6).changesNothing(Due.NONE, "renew", 2);
        s.changesNothing(Due.BAD_ARG, "revoke", 6).changesNothing(Due.NONE, "revoke", 2);
        s.changesNothing(Due.BAD_ARG, "remaining", 6).changesNothing(Due.NONE, "remaining", 2);
        s.changesNothing(Due.BAD_ARG, "keysOf", 6).changesNothing(Due.BAD_ARG, "advance", 101);
    }

    static void aRefusedCallOfWatchesChangesNothing() {
        Story s = story(REFUSED).crowded();
        s.changesNothing(Due.BAD_ARG, "watch", 4, 0, 15, 4);
        s.changesNothing(Due.BAD_ARG, "watch", 3, 0, 16, 4);
        s.changesNothing(Due.BUSY, "watch", 0, 1, 2, 9);
        s.changesNothing(Due.BUSY, "watch", 1, 1, 2, 9);
        s.changesNothing(Due.FORGOTTEN, "watch", 3, 0, 15, 3);
        s.changesNothing(Due.BAD_ARG, "unwatch", 4).changesNothing(Due.NONE, "unwatch", 3);
        s.changesNothing(Due.BAD_ARG, "next", 4).changesNothing(Due.NONE, "next", 3);
        s.changesNothing(Due.NONE, "next", 2).changesNothing(Due.FORGOTTEN, "next", 1);
        s.changesNothing(Due.BAD_ARG, "handed", 4, 0).changesNothing(Due.BAD_ARG, "handed", 0, 3);
        s.changesNothing(Due.NONE, "handed", 3, 0).changesNothing(Due.NONE, "handed", 1, 0);
        s.changesNothing(Due.BAD_ARG, "waiting", 4).changesNothing(Due.NONE, "waiting", 3);
        s.changesNothing(Due.FORGOTTEN, "waiting", 1);
    }

    static void aCallThatOnlyAsksChangesNothing() {
        Story s = story("Nothing is promised beyond the answers and state changes described above");
        s.crowded().changesNothing(103, "revision").changesNothing(100, "remembered");
        s.changesNothing(103, "value", 1, -1).changesNothing(50, "value", 9, 50);
        s.changesNothing(15, "count", 0, 15, -1).changesNothing(7, "keyAt", 0, 15, 7, 50);
        s.changesNothing(13, "made", 1).changesNothing(103, "set", 1);
        s.changesNothing(7, "version", 1).changesNothing(0, "leaseOf", 1);
        s.changesNothing(3, "remaining", 0).changesNothing(5, "keysOf", 0);
        s.changesNothing(99, "waiting", 0).changesNothing(0, "waiting", 2);
        s.changesNothing(10, "handed", 0, 0).changesNothing(15, "handed", 2, 0);
        s.changesNothing(1, "handed", 0, 1).changesNothing(0, "handed", 2, 1);
        s.changesNothing(4, "handed", 0, 2).changesNothing(0, "handed", 2, 2);
        s.changesNothing(100, "compact", 3).changesNothing(0, "advance", 0);
    }

    static void noCallEverThrows() {
        due.about("No call ever throws.");
        Story.anyCalls(due, EDGES);
    }
}
