/** Promises 1 to 6, each by its sentences: a new object, put, swap, erase, revision, remembered. */
public final class KeysTest {
    private static final Due due = new Due();

    public static void main(String[] args) throws ReflectiveOperationException {
        due.runAll(KeysTest.class);
    }

    private static Story story(int promise, String sentence) {
        return new Story(due, promise, sentence);
    }

    static void newObjectHasNoKey() {
        Story s = story(1, "No key exists").is(0, "count", 0, 15, -1).is(0, "count", 0, 15, 0);
        for (int k = 0; k <= 15; k++) {
            s.changesNothing(Due.NONE, "value", k, -1).changesNothing(Due.NONE, "value", k, 0);
            s.changesNothing(Due.NONE, "made", k).changesNothing(Due.NONE, "set", k);
            s.changesNothing(Due.NONE, "version", k).changesNothing(Due.NONE, "leaseOf", k);
        }
        s.changesNothing(Due.NONE, "erase", 0, 15).changesNothing(Due.NONE, "keyAt", 0, 15, 0, -1);
        for (int k = 0; k <= 15; k++) {
            s.is(k + 1, "swap", k, 0, 5);
        }
    }

    static void newObjectHasNoOpenLease() {
        Story s = story(1, "no lease is open");
        for (int l = 0; l <= 5; l++) {
            s.changesNothing(Due.NONE, "remaining", l).changesNothing(Due.NONE, "renew", l);
            s.changesNothing(Due.NONE, "revoke", l).changesNothing(0, "keysOf", l);
            s.changesNothing(Due.NONE, "put", 0, 5, l);
        }
        s.is(0, "advance", 100);
        for (int l = 0; l <= 5; l++) {
            s.is(101, "grant", l, 1);
        }
    }

    static void newObjectHasNoWatchInUse() {
        Story s = story(1, "no watch is in use");
        for (int w = 0; w <= 3; w++) {
            s.changesNothing(Due.NONE, "waiting", w).changesNothing(Due.NONE, "next", w);
            s.changesNothing(Due.NONE, "unwatch", w).changesNothing(Due.NONE, "handed", w, 0);
            s.changesNothing(Due.NONE, "handed", w, 1).changesNothing(Due.NONE, "handed", w, 2);
        }
        for (int w = 0; w <= 3; w++) {
            s.is(0, "watch", w, 0, 15, -1);
        }
    }

    static void newObjectSharesNothingWithOthers() {
        due.about("promise 1, \"No key exists, no lease is open, no watch is in use.\"");
        RevisionedKeys one = new RevisionedKeys();
        due.is("grant", one.grant(0, 5), 5);
        due.is("put", one.put(3, 30, 0), 1);
        due.is("watch", one.watch(0, 0, 15, 1), 0);
        RevisionedKeys other = new RevisionedKeys();
        due.is("revision of the other", other.revision(), 0);
        due.is("value of the other", other.value(3, -1), Due.NONE);
        due.is("lease of the other", other.remaining(0), Due.NONE);
        due.is("watch of the other", other.waiting(0), Due.NONE);
        due.is("put on the other", other.put(3, 31, -1), 1);
        due.is("value of the one", one.value(3, -1), 30);
        due.is("lease of the one", one.leaseOf(3), 0);
    }

    static void putSaysTheValue() {
        Story s = story(2, "Key k is put with value x").is(1, "put", 0, Integer.MIN_VALUE, -1);
        s.is(2, "put", 15, Integer.MAX_VALUE, -1).is(Integer.MIN_VALUE, "value", 0, -1);
        s.is(Integer.MAX_VALUE, "value", 15, -1).is(3, "put", 15, 0, -1).is(0, "value", 15, -1);
        s.is(4, "put", 3, Due.NONE, -1).is(Due.NONE, "value", 3, -1).is(1, "count", 3, 3, -1);
    }

    static void putOfTheSameIsAChangeToo() {
        Story s = story(2, "Key k is put with value x").is(1, "put", 4, 5, -1);
        s.is(2, "put", 4, 5, -1);
        s.is(2, "revision").is(2, "remembered").is(2, "set", 4).is(2, "version", 4);
    }

    static void putSaysTheLease() {
        Story s = story(2, "under lease l, or none if l is -1").is(9, "grant", 0, 9);
        s.is(9, "grant", 5, 9).is(1, "put", 4, 5, 5).is(5, "leaseOf", 4).is(1, "keysOf", 5);
        s.is(2, "put", 4, 5, 0).is(0, "leaseOf", 4).is(0, "keysOf", 5).is(1, "keysOf", 0);
        s.is(3, "put", 4, 5, -1).is(Due.NONE, "leaseOf", 4).is(0, "keysOf", 0);
        s.is(2, "advance", 9).is(5, "value", 4, -1).is(3, "revision");
    }

    static void putRefusesALeaseThatIsNone() {
        Story s = story(2, "l not -1 to 5 answers BAD_ARG");
        for (int l = 0; l <= 5; l++) {
            s.is(9, "grant", l, 9);
        }
        s.changesNothing(Due.BAD_ARG, "put", 4, 5, -2).changesNothing(Due.BAD_ARG, "put", 4, 5, 6);
        for (int wild : Due.WILD) {
            s.changesNothing(Due.BAD_ARG, "put", 4, 5, wild);
        }
        s.is(1, "put", 4, 5, -1);
        for (int l = 0; l <= 5; l++) {
            s.is(l + 2, "put", 4, 5, l);
        }
    }

    static void putRefusesALeaseThatIsNotOpen() {
        Story s = story(2, "l is not open answers NONE").is(2, "grant", 0, 2).is(9, "grant", 5, 9);
        for (int l = 1; l <= 4; l++) {
            s.changesNothing(Due.NONE, "put", 4, 5, l);
        }
        s.is(1, "put", 4, 5, 0).is(2, "put", 5, 5, 5).is(1, "advance", 2);
        s.changesNothing(Due.NONE, "put", 4, 5, 0).is(1, "revoke", 5);
        s.changesNothing(Due.NONE, "put", 4, 5, 5).is(6, "grant", 0, 4).is(5, "put", 4, 5, 0);
    }

    static void putRefusesTheHundredAndFirst() {
        Story s = story(2, "100 changes or more are remembered, FULL").is(9, "grant", 2, 9);
        s.putsUpTo(99).is(1, "erase", 4, 4).changesNothing(Due.FULL, "put", 5, 5, -1);
        s.changesNothing(Due.FULL, "put", 4, 5, -1).changesNothing(Due.FULL, "put", 4, 5, 2);
        s.is(99, "compact", 1).is(101, "put", 4, 5, 2).changesNothing(Due.FULL, "put", 4, 5, 2);
    }

    static void putRefusesWhenMoreThanAHundredAreRemembered() {
        Story s = story(2, "100 changes or more are remembered, FULL").fullest();
        s.changesNothing(Due.FULL, "put", 0, 5, -1).is(101, "compact", 15).is(101, "remembered");
        s.changesNothing(Due.FULL, "put", 0, 5, -1).is(100, "compact", 16);
        s.changesNothing(Due.FULL, "put", 0, 5, -1).is(99, "compact", 17).is(102, "put", 0, 5, -1);
    }

    static void putTestsInOrder() {
        Story s = story(2, "Tested in this order").crowded();
        s.changesNothing(Due.BAD_ARG, "put", 4, 5, 6).changesNothing(Due.BAD_ARG, "put", 4, 5, -2);
        s.changesNothing(Due.NONE, "put", 4, 5, 2).changesNothing(Due.NONE, "put", 4, 5, 5);
        s.changesNothing(Due.FULL, "put", 4, 5, 1).changesNothing(Due.FULL, "put", 4, 5, -1);
    }

    static void putAnswersTheNewRevision() {
        Story s = story(2, "Otherwise the new revision.").is(1, "put", 1, 5, -1).is(1, "revision");
        s.is(2, "put", 2, 5, -1).is(2, "erase", 1, 2).is(4, "put", 1, 5, -1).is(4, "revision");
        s.is(0, "compact", 4).is(5, "put", 1, 5, -1).is(5, "revision");
    }

    static void swapPutsIfSetAtThatRevision() {
        Story s = story(3, "Key k is put with value x").is(1, "put", 4, 40, -1);
        s.is(2, "put", 5, 50, -1).is(3, "swap", 4, 1, 41).is(41, "value", 4, -1);
        s.is(40, "value", 4, 2).is(1, "made", 4).is(3, "set", 4).is(2, "version", 4);
        s.is(4, "swap", 4, 3, Integer.MIN_VALUE).is(Integer.MIN_VALUE, "value", 4, -1);
        s.is(5, "swap", 5, 2, 51).is(51, "value", 5, -1).is(5, "remembered");
    }

    static void swapOfAForgottenSettingPuts() {
        Story s = story(3, "if it was set at revision r").is(1, "put", 4, 40, -1);
        s.is(0, "compact", 1);
        s.is(2, "put", 5, 50, -1).is(0, "compact", 2).is(3, "swap", 4, 1, 41);
        s.is(41, "value", 4, -1);
    }

    static void swapKeepsTheLease() {
        Story s = story(3, "under the lease that it stands under").is(5, "grant", 1, 5);
        s.is(1, "put", 2, 5, 1).is(2, "swap", 2, 1, 6).is(1, "leaseOf", 2).is(1, "keysOf", 1);
        s.is(3, "put", 3, 5, -1).is(4, "swap", 3, 3, 6).is(Due.NONE, "leaseOf", 3);
        s.is(1, "advance", 5).changesNothing(Due.NONE, "value", 2, -1).is(6, "value", 3, -1);
    }

    static void swapOfNoKeyTakesNoLease() {
        Story s = story(3, "under the lease that it stands under").is(5, "grant", 1, 5);
        s.is(1, "put", 2, 5, 1).is(1, "erase", 2, 2).is(3, "swap", 2, 0, 6);
        s.is(Due.NONE, "leaseOf", 2).is(4, "put", 3, 5, 1).is(1, "revoke", 1).is(5, "grant", 1, 5);
        s.is(6, "swap", 3, 0, 6).is(Due.NONE, "leaseOf", 3).is(0, "keysOf", 1);
        s.is(1, "advance", 5).is(2, "count", 0, 15, -1);
    }

    static void swapAtRevisionZeroMakesAKey() {
        Story s = story(3, "r = 0: if it does not exist").is(5, "grant", 0, 5);
        s.is(1, "swap", 0, 0, 5).is(2, "swap", 15, 0, 6).is(5, "value", 0, -1);
        s.is(6, "value", 15, -1);
        s.changesNothing(Due.NONE, "swap", 0, 0, 7).is(1, "erase", 0, 0).is(4, "swap", 0, 0, 7);
        s.is(4, "made", 0).is(1, "version", 0).is(5, "put", 3, 5, 0).is(1, "advance", 5);
        s.is(7, "swap", 3, 0, 7).is(7, "made", 3).is(1, "version", 3);
    }

    static void swapRefusesWhatIsNotSo() {
        Story s = story(3, "NONE if that is not so").is(1, "put", 4, 40, -1);
        s.is(2, "put", 4, 41, -1);
        s.is(3, "put", 5, 50, -1);
        s.changesNothing(Due.NONE, "swap", 4, 1, 9).changesNothing(Due.NONE, "swap", 4, 3, 9);
        s.changesNothing(Due.NONE, "swap", 4, 4, 9).changesNothing(Due.NONE, "swap", 4, 0, 9);
        s.changesNothing(Due.NONE, "swap", 4, -1, 9).changesNothing(Due.NONE, "swap", 4, -2, 9);
        s.changesNothing(Due.NONE, "swap", 6, 3, 9).changesNothing(Due.NONE, "swap", 6, -1, 9);
        for (int wild : Due.WILD) {
            s.changesNothing(Due.NONE, "swap", 4, wild, 9);
            s.changesNothing(Due.NONE, "swap", 6, wild, 9);
        }
        s.is(1, "erase", 4, 4);
        s.changesNothing(Due.NONE, "swap", 4, 2, 9).changesNothing(Due.NONE, "swap", 4, 4, 9);
    }

    static void swapRefusesTheHundredAndFirst() {
        Story s = story(3, "Tested in this order: NONE if that is not so; FULL.").putsUpTo(99);
        s.is(100, "swap", 3, 99, 5).changesNothing(Due.FULL, "swap", 3, 100, 6);
        s.is(99, "compact", 1).is(1, "erase", 4, 4).changesNothing(Due.FULL, "swap", 4, 0, 6);
        s.is(99, "compact", 2).is(102, "swap", 4, 0, 6).changesNothing(Due.FULL, "swap", 4, 102, 6);
    }

    static void swapRefusesWhenMoreThanAHundredAreRemembered() {
        Story s = story(3, "Tested in this order: NONE if that is not so; FULL.").fullest();
        s.changesNothing(Due.FULL, "swap", 0, 0, 5).is(100, "compact", 16);
        s.changesNothing(Due.FULL, "swap", 0, 0, 5).is(99, "compact", 17).is(102, "swap", 0, 0, 5);
    }

    static void swapTestsInOrder() {
        Story s = story(3, "Tested in this order: NONE if that is not so; FULL.").crowded();
        s.changesNothing(Due.NONE, "swap", 1, 102, 5).changesNothing(Due.NONE, "swap", 1, 0, 5);
        s.changesNothing(Due.NONE, "swap", 1, 88, 5).changesNothing(Due.NONE, "swap", 15, 2, 5);
        s.changesNothing(Due.FULL, "swap", 1, 103, 5).changesNothing(Due.FULL, "swap", 15, 0, 5);
    }

    static void swapAnswersTheNewRevision() {
        Story s = story(3, "Otherwise the new revision.").is(1, "swap", 4, 0, 5).is(1, "revision");
        s.is(2, "put", 5, 5, -1).is(3, "swap", 4, 1, 5).is(3, "revision");
    }

    static void eraseErasesAllOfTheRangeByOneWriting() {
        Story s = story(4, "All keys of the range that exist are erased by one writing.");
        s.putsUpTo(16);
        s.is(4, "erase", 3, 6).is(17, "revision").is(20, "remembered").is(12, "count", 0, 15, -1);
        for (int k = 3; k <= 6; k++) {
            s.changesNothing(Due.NONE, "value", k, -1).is(k, "value", k, 16);
        }
        s.is(2, "value", 2, -1).is(7, "value", 7, -1).is(4, "erase", 0, 7).is(18, "revision");
        s.is(8, "erase", 0, 15).is(19, "revision").is(32, "remembered").is(0, "count", 0, 15, -1);
    }

    static void eraseLeavesTheLeaseOpen() {
        Story s = story(4, "All keys of the range that exist are erased by one writing.");
        s.is(9, "grant", 2, 9).is(1, "put", 4, 5, 2).is(2, "put", 5, 5, 2).is(1, "erase", 4, 4);
        s.is(1, "keysOf", 2).is(1, "erase", 0, 15).is(0, "keysOf", 2).is(9, "remaining", 2);
        s.is(1, "advance", 9).is(4, "revision");
    }

    static void eraseRefusesIfThereIsNone() {
        Story s = story(4, "NONE if there is none").changesNothing(Due.NONE, "erase", 0, 15);
        s.is(1, "put", 5, 5, -1).changesNothing(Due.NONE, "erase", 0, 4);
        s.changesNothing(Due.NONE, "erase", 6, 15).changesNothing(Due.NONE, "erase", 6, 5);
        s.is(1, "erase", 5, 5).changesNothing(Due.NONE, "erase", 5, 5);
        s.changesNothing(Due.NONE, "erase", 0, 15);
    }

    static void eraseRefusesMoreThanAHundred() {
        Story s = story(4, "there would be more than 100 changes remembered, FULL").putsUpTo(97);
        s.changesNothing(Due.FULL, "erase", 0, 3).changesNothing(Due.FULL, "erase", 0, 15);
        s.is(3, "erase", 0, 2).is(100, "remembered").changesNothing(Due.FULL, "erase", 3, 3);
        s.is(95, "compact", 5).changesNothing(Due.FULL, "erase", 3, 8).is(5, "erase", 0, 7);
        s.changesNothing(Due.FULL, "erase", 8, 8);
    }

    static void eraseCountsOnlyKeysThatExist() {
        Story s = story(4, "there would be more than 100 changes remembered, FULL");
        s.is(1, "put", 3, 5, -1);
        for (int r = 2; r <= 98; r++) {
            s.is(r, "put", 12, r, -1);
        }
        s.is(2, "erase", 0, 15).is(100, "remembered");
    }

    static void eraseRefusesWhenMoreThanAHundredAreRemembered() {
        Story s = story(4, "there would be more than 100 changes remembered, FULL").crowded();
        s.changesNothing(Due.FULL, "erase", 0, 15).is(5, "revoke", 0).is(105, "remembered");
        s.changesNothing(Due.FULL, "erase", 0, 15).changesNothing(Due.FULL, "erase", 5, 5);
        s.is(100, "compact", 8).changesNothing(Due.FULL, "erase", 5, 5).is(99, "compact", 9);
        s.changesNothing(Due.FULL, "erase", 5, 6).is(1, "erase", 5, 5);
    }

    static void eraseTestsInOrder() {
        Story s = story(4, "Tested in this order: NONE if there is none; there would be more than");
        s.putsUpTo(97).is(3, "erase", 0, 2).changesNothing(Due.NONE, "erase", 0, 2);
        s.changesNothing(Due.NONE, "erase", 9, 8).changesNothing(Due.FULL, "erase", 0, 3);
        story(4, "Tested in this order: NONE if there is none").fullest()
                .changesNothing(Due.NONE, "erase", 0, 15);
    }

    static void eraseAnswersHowMany() {
        Story s = story(4, "Otherwise how many.").putsUpTo(16).is(1, "erase", 15, 15);
        s.is(2, "erase", 0, 1).is(13, "erase", 0, 15).is(19, "revision");
    }

    static void revisionCountsWritingsOnly() {
        Story s = story(5, "The revision.").is(0, "revision").is(9, "grant", 0, 9);
        s.is(9, "renew", 0);
        s.is(0, "watch", 0, 0, 15, -1).is(0, "advance", 1).is(0, "revoke", 0).is(0, "revision");
        s.is(1, "put", 1, 5, -1).is(2, "put", 2, 5, -1).is(1, "next", 0).is(2, "erase", 0, 15);
        s.is(3, "revision").is(0, "compact", 3).is(1, "unwatch", 0).is(3, "revision");
    }

    static void rememberedCountsChanges() {
        Story s = story(6, "The number of changes remembered.").is(0, "remembered");
        s.is(1, "put", 1, 5, -1).is(1, "remembered").is(2, "put", 2, 5, -1).is(2, "erase", 0, 15);
        s.is(4, "remembered").is(0, "watch", 0, 0, 15, 1).is(1, "next", 0).is(4, "remembered");
        s.is(2, "compact", 2).is(2, "remembered").is(0, "compact", 3).is(0, "remembered");
        s.is(4, "put", 2, 5, -1).is(1, "remembered");
    }

    static void rememberedCanBeMoreThanAHundred() {
        Story s = story(6, "The number of changes remembered.").fullest().is(116, "remembered");
        s.is(16, "compact", 100).is(16, "remembered");
    }
}
