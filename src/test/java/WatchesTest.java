/** Promises 21 to 25, each by its sentences: watch, unwatch, next, handed, waiting. */
public final class WatchesTest {
    private static final Due due = new Due();

    public static void main(String[] args) throws ReflectiveOperationException {
        due.runAll(WatchesTest.class);
    }

    private static Story story(int promise, String sentence) {
        return new Story(due, promise, sentence);
    }

    /** Five puts, of keys 1 to 5, each at the revision of its number and with that value. */
    private static Story five(int promise, String sentence) {
        return story(promise, sentence).putsUpTo(5);
    }

    /** Watch 0 is lost at revision 5, having handed out the first two changes of five. */
    private static Story lost(int promise, String sentence) {
        Story s = five(promise, sentence).is(0, "watch", 0, 0, 15, 1).is(1, "next", 0);
        return s.is(2, "next", 0).is(2, "compact", 3);
    }

    static void watchIsOpenFromNowOn() {
        Story s = five(21, "Watch w is open from now on, for this range, from revision r on");
        s.is(0, "watch", 0, 2, 4, 3).is(2, "waiting", 0).is(3, "next", 0).is(4, "next", 0);
        s.changesNothing(Due.NONE, "next", 0).is(5, "erase", 0, 15).is(3, "waiting", 0);
        s.is(0, "watch", 3, 5, 5, 1).is(5, "next", 3).is(6, "next", 3);
        s.changesNothing(Due.NONE, "next", 3);
    }

    static void watchFromMinusOneIsFromTheOneAfterThePresent() {
        Story s = five(21, "r = -1: from the one after the present one");
        s.is(0, "watch", 3, 0, 15, -1);
        s.is(0, "waiting", 3).changesNothing(Due.NONE, "next", 3).is(6, "put", 0, 5, -1);
        s.is(6, "next", 3).changesNothing(Due.NONE, "next", 3).is(0, "compact", 6);
        s.is(0, "watch", 0, 0, 15, -1).is(0, "waiting", 0).is(7, "put", 0, 5, -1).is(7, "next", 0);
        story(21, "r = -1: from the one after the present one").is(0, "watch", 0, 0, 15, -1)
                .is(1, "put", 0, 5, -1).is(1, "next", 0);
    }

    static void watchFromARevisionThatIsNotYetIsAllowed() {
        Story s = five(21, "from revision r on").is(0, "watch", 0, 0, 15, 8);
        s.is(0, "watch", 1, 0, 15, Integer.MAX_VALUE).is(0, "watch", 2, 0, 15, 6).putsUpTo(7);
        s.is(0, "waiting", 0).changesNothing(Due.NONE, "next", 0).is(6, "next", 2).is(7, "next", 2);
        s.is(0, "compact", 7).is(0, "waiting", 0).putsUpTo(8).is(8, "next", 0);
        s.changesNothing(Due.NONE, "next", 1).is(0, "waiting", 1).is(0, "unwatch", 1);
    }

    static void watchRefusesAnOpenOne() {
        Story s = five(21, "BUSY if it is open or lost").is(0, "watch", 0, 0, 15, 1);
        s.is(0, "watch", 1, 4, 3, -1).is(1, "next", 0);
        s.changesNothing(Due.BUSY, "watch", 0, 0, 15, 1);
        s.changesNothing(Due.BUSY, "watch", 1, 2, 4, 3);
        s.changesNothing(Due.BUSY, "watch", 0, 2, 4, -1).is(0, "unwatch", 0);
        s.is(0, "watch", 0, 2, 4, 3).is(2, "waiting", 0);
    }

    static void watchRefusesALostOne() {
        Story s = lost(21, "BUSY if it is open or lost");
        s.changesNothing(Due.BUSY, "watch", 0, 0, 15, 4);
        s.changesNothing(Due.BUSY, "watch", 0, 2, 1, -1);
        s.is(1, "unwatch", 0).is(0, "watch", 0, 0, 15, 4).is(2, "waiting", 0);
    }

    static void watchRefusesWhatIsForgotten() {
        Story s = five(21, "r not above the forgotten revision, FORGOTTEN");
        s.changesNothing(Due.FORGOTTEN, "watch", 0, 0, 15, 0);
        s.changesNothing(Due.FORGOTTEN, "watch", 0, 0, 15, -2);
        for (int wild : Due.WILD) {
            if (wild < 0) {
                s.changesNothing(Due.FORGOTTEN, "watch", 3, 0, 15, wild);
            }
        }
        s.is(2, "compact", 3).changesNothing(Due.FORGOTTEN, "watch", 0, 0, 15, 3);
        s.changesNothing(Due.FORGOTTEN, "watch", 0, 0, 15, 2);
        s.changesNothing(Due.FORGOTTEN, "watch", 0, 9, 8, 3);
        s.is(0, "watch", 0, 0, 15, 4).is(2, "waiting", 0).is(0, "compact", 5);
        s.changesNothing(Due.FORGOTTEN, "watch", 1, 0, 15, 5).is(0, "watch", 1, 0, 15, 6);
    }

    static void watchTestsInOrder() {
        Story s = five(21, "Tested in this order: BUSY if it is open or lost; r not above the");
        s.is(2, "compact", 3).is(0, "watch", 0, 0, 15, 4);
        s.changesNothing(Due.BUSY, "watch", 0, 0, 15, 3);
        s.changesNothing(Due.BUSY, "watch", 0, 0, 15, 0);
        s.is(1, "compact", 4).changesNothing(Due.FORGOTTEN, "next", 0);
        s.changesNothing(Due.BUSY, "watch", 0, 0, 15, 4);
        s.changesNothing(Due.BUSY, "watch", 0, 0, 15, -2);
        s.changesNothing(Due.FORGOTTEN, "watch", 1, 0, 15, 4);
    }

    static void watchAnswersZero() {
        Story s = five(21, "Otherwise 0.");
        for (int w = 0; w <= 3; w++) {
            s.is(0, "watch", w, 15 - w, w, w + 1);
        }
    }

    static void unwatchEndsTheUse() {
        Story s = five(22, "Watch w is not in use any more.").is(0, "watch", 0, 0, 15, 1);
        s.is(0, "watch", 1, 0, 15, 1).is(1, "next", 0).is(0, "unwatch", 0);
        s.changesNothing(Due.NONE, "next", 0).changesNothing(Due.NONE, "waiting", 0);
        s.changesNothing(Due.NONE, "handed", 0, 0).is(5, "waiting", 1).is(0, "watch", 0, 4, 4, 3);
        s.is(1, "waiting", 0).is(4, "next", 0).changesNothing(Due.NONE, "next", 0);
    }

    static void unwatchRefusesOneThatIsNotInUse() {
        Story s = five(22, "NONE if it is not.").changesNothing(Due.NONE, "unwatch", 0);
        s.changesNothing(Due.NONE, "unwatch", 3).is(0, "watch", 0, 0, 15, 1).is(1, "next", 0);
        s.changesNothing(Due.NONE, "unwatch", 1).is(0, "unwatch", 0);
        s.changesNothing(Due.NONE, "unwatch", 0);
    }

    static void unwatchAnswersWhetherItWasLost() {
        Story s = lost(22, "Otherwise 1 if it was lost, else 0.").is(0, "watch", 1, 0, 15, -1);
        s.is(0, "watch", 2, 9, 8, 4).is(0, "watch", 3, 0, 15, 5).is(0, "unwatch", 2);
        s.is(0, "compact", 5).is(1, "unwatch", 0).is(0, "unwatch", 1).is(1, "unwatch", 3);
        s.is(0, "watch", 0, 0, 15, -1).is(0, "unwatch", 0);
    }

    static void nextHandsOutInOrder() {
        Story s = five(23, "Watch w hands out the next change.").is(3, "erase", 2, 4);
        s.is(7, "put", 3, 7, -1).is(0, "watch", 0, 0, 15, 5);
        int[][] changes = {{5, 5, 1, 5}, {6, 2, 0, 0}, {6, 3, 0, 0}, {6, 4, 0, 0}, {7, 3, 1, 7}};
        for (int[] change : changes) {
            s.is(change[0], "next", 0).is(change[1], "handed", 0, 0);
            s.is(change[2], "handed", 0, 1).is(change[3], "handed", 0, 2);
        }
        s.changesNothing(Due.NONE, "next", 0);
    }

    static void nextAnswersTheRevisionOfTheChange() {
        Story s = five(23, "Answers the revision of the change").is(5, "erase", 0, 15);
        s.is(0, "watch", 0, 4, 5, 1).is(4, "next", 0).is(5, "next", 0).is(6, "next", 0);
        s.is(6, "next", 0);
    }

    private static void isNoneIfNotInUse(int promise, String call) {
        Story s = five(promise, "NONE if it is not in use").changesNothing(Due.NONE, call, 0);
        s.changesNothing(Due.NONE, call, 3).is(0, "watch", 0, 0, 15, 1).is(0, "unwatch", 0);
        s.changesNothing(Due.NONE, call, 0);
        lost(promise, "NONE if it is not in use").is(1, "unwatch", 0)
                .changesNothing(Due.NONE, call, 0);
    }

    static void nextIsNoneIfNotInUse() {
        isNoneIfNotInUse(23, "next");
    }

    static void nextIsNoneIfThereIsNoneYet() {
        Story s = five(23, "or there is none yet").is(0, "watch", 0, 0, 15, -1);
        s.is(0, "watch", 1, 6, 6, 1).is(0, "watch", 2, 0, 15, 5).is(5, "next", 2);
        s.changesNothing(Due.NONE, "next", 0).changesNothing(Due.NONE, "next", 1);
        s.changesNothing(Due.NONE, "next", 2).is(5, "handed", 2, 0).putsUpTo(6);
        s.is(6, "next", 0).is(6, "next", 1).is(6, "next", 2).changesNothing(Due.NONE, "next", 0);
    }

    static void nextIsForgottenIfLost() {
        Story s = lost(23, "FORGOTTEN if it is lost").changesNothing(Due.FORGOTTEN, "next", 0);
        s.putsUpTo(6).changesNothing(Due.FORGOTTEN, "next", 0).is(0, "compact", 6);
        s.changesNothing(Due.FORGOTTEN, "next", 0).is(2, "handed", 0, 0);
    }

    static void handedTellsOfTheLastChange() {
        Story s = story(24, "0: its key, 1: 1 if it was put, 0 if erased, 2: the value it was put "
                + "with, 0 if erased.");
        s.is(0, "watch", 0, 0, 15, 1).is(1, "put", 15, -5, -1).is(1, "erase", 15, 15);
        s.is(3, "put", 0, Due.NONE, -1);
        int[][] changes = {{15, 1, -5}, {15, 0, 0}, {0, 1, Due.NONE}};
        for (int r = 1; r <= 3; r++) {
            s.is(r, "next", 0);
            for (int what = 0; what <= 2; what++) {
                s.changesNothing(changes[r - 1][what], "handed", 0, what);
            }
        }
        s.changesNothing(Due.NONE, "next", 0).is(0, "handed", 0, 0).is(1, "handed", 0, 1);
    }

    static void handedIsKeptWhenTheChangeIsForgotten() {
        Story s = five(24, "Of the change that watch w handed out last").is(0, "watch", 0, 2, 2, 1);
        s.is(2, "next", 0).is(0, "compact", 5).is(2, "handed", 0, 0).is(1, "handed", 0, 1);
        s.is(2, "handed", 0, 2).is(6, "put", 2, 9, -1).is(2, "handed", 0, 2);
    }

    static void handedOfALostWatchIsItsLastChange() {
        Story s = lost(24, "Of the change that watch w handed out last").is(2, "handed", 0, 0);
        s.is(1, "handed", 0, 1).is(2, "handed", 0, 2).changesNothing(Due.FORGOTTEN, "next", 0);
        s.is(2, "handed", 0, 0);
    }

    static void handedRefusesAnotherWhat() {
        Story s = five(24, "what not 0 to 2 answers BAD_ARG").is(0, "watch", 0, 0, 15, 1);
        s.is(1, "next", 0).changesNothing(Due.BAD_ARG, "handed", 0, -1);
        s.changesNothing(Due.BAD_ARG, "handed", 0, 3);
        for (int wild : Due.WILD) {
            s.changesNothing(Due.BAD_ARG, "handed", 0, wild);
        }
    }

    static void handedIsNoneIfNotInUse() {
        Story s = five(24, "NONE if w is not in use").is(0, "watch", 0, 0, 15, 1).is(1, "next", 0);
        for (int what = 0; what <= 2; what++) {
            s.changesNothing(Due.NONE, "handed", 1, what);
            s.changesNothing(Due.NONE, "handed", 3, what);
        }
        s.is(0, "unwatch", 0);
        Story t = lost(24, "NONE if w is not in use").is(1, "unwatch", 0);
        for (int what = 0; what <= 2; what++) {
            s.changesNothing(Due.NONE, "handed", 0, what);
            t.changesNothing(Due.NONE, "handed", 0, what);
        }
    }

    static void handedIsNoneIfItHandedNoneOut() {
        Story s = five(24, "or handed none out").is(0, "watch", 0, 0, 15, 1);
        s.is(0, "watch", 1, 0, 15, -1).changesNothing(Due.NONE, "next", 1);
        for (int what = 0; what <= 2; what++) {
            s.changesNothing(Due.NONE, "handed", 0, what);
            s.changesNothing(Due.NONE, "handed", 1, what);
        }
        s.is(0, "compact", 5);
        for (int what = 0; what <= 2; what++) {
            s.changesNothing(Due.NONE, "handed", 0, what);
        }
    }

    static void handedOfAWatchMadeAnewIsNone() {
        Story s = five(24, "or handed none out").is(0, "watch", 0, 0, 15, 1).is(1, "next", 0);
        s.is(0, "unwatch", 0).is(0, "watch", 0, 0, 15, 1);
        for (int what = 0; what <= 2; what++) {
            s.changesNothing(Due.NONE, "handed", 0, what);
        }
        s.is(1, "next", 0).is(1, "handed", 0, 0);
    }

    static void handedTestsInOrder() {
        Story s = five(24, "Tested in this order: what not 0 to 2 answers BAD_ARG; NONE");
        s.changesNothing(Due.BAD_ARG, "handed", 0, 3).changesNothing(Due.BAD_ARG, "handed", 0, -1);
        s.is(0, "watch", 0, 0, 15, 1).changesNothing(Due.BAD_ARG, "handed", 0, 3);
        s.changesNothing(Due.BAD_ARG, "handed", 0, -1);
    }

    static void waitingCountsWhatCouldBeHandedOutNow() {
        Story s = five(25, "The number of changes that watch w could hand out now");
        s.is(0, "watch", 2, 2, 15, 1);
        for (int left = 4; left > 0; left--) {
            s.changesNothing(left, "waiting", 2).is(6 - left, "next", 2);
        }
        s.changesNothing(0, "waiting", 2).is(3, "erase", 0, 3).is(2, "waiting", 2);
        s.is(6, "next", 2).is(1, "waiting", 2).is(6, "next", 2).is(0, "waiting", 2);
    }

    static void waitingIsNoneIfNotInUse() {
        isNoneIfNotInUse(25, "waiting");
    }

    static void waitingIsForgottenIfLost() {
        Story s = lost(25, "FORGOTTEN if it is lost").changesNothing(Due.FORGOTTEN, "waiting", 0);
        s.putsUpTo(6).changesNothing(Due.FORGOTTEN, "waiting", 0).is(0, "compact", 6);
        s.changesNothing(Due.FORGOTTEN, "waiting", 0);
    }
}
