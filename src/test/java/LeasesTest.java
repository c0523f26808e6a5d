/** Promises 15 to 20, each by its sentences: grant, renew, revoke, remaining, keysOf, advance. */
public final class LeasesTest {
    private static final Due due = new Due();

    public static void main(String[] args) throws ReflectiveOperationException {
        due.runAll(LeasesTest.class);
    }

    private static Story story(int promise, String sentence) {
        return new Story(due, promise, sentence);
    }

    static void grantOpensFromNowOn() {
        Story s = story(15, "Lease l is open from now on, with this length");
        s.is(3, "grant", 0, 3).is(50, "grant", 5, 50).is(1, "put", 4, 5, 0).is(2, "put", 5, 5, 5);
        s.is(3, "remaining", 0).is(1, "keysOf", 0).is(0, "advance", 2).is(5, "renew", 0);
    }

    static void grantEndsThatLongFromNowOn() {
        Story s = story(15, "it ends that long from now on").is(0, "advance", 7);
        s.is(10, "grant", 1, 3).is(1, "put", 4, 5, 1).is(0, "advance", 2).is(5, "value", 4, -1);
        s.is(1, "advance", 1).changesNothing(Due.NONE, "value", 4, -1);
    }

    static void grantOfTheShortestAndTheLongest() {
        Story s = story(15, "length not 1 to 50 answers BAD_ARG").is(1, "grant", 0, 1);
        s.is(50, "grant", 1, 50).is(1, "advance", 1).is(0, "advance", 48).is(1, "advance", 1);
    }

    static void grantRefusesALengthOutOfRange() {
        Story s = story(15, "length not 1 to 50 answers BAD_ARG");
        s.changesNothing(Due.BAD_ARG, "grant", 0, 0).changesNothing(Due.BAD_ARG, "grant", 0, 51);
        s.changesNothing(Due.BAD_ARG, "grant", 5, -1);
        for (int wild : Due.WILD) {
            s.changesNothing(Due.BAD_ARG, "grant", 3, wild);
        }
    }

    static void grantRefusesAnOpenLease() {
        Story s = story(15, "BUSY").is(9, "grant", 0, 9).is(1, "put", 4, 5, 0);
        s.changesNothing(Due.BUSY, "grant", 0, 9).changesNothing(Due.BUSY, "grant", 0, 3);
        s.is(0, "advance", 8).changesNothing(Due.BUSY, "grant", 0, 50).is(17, "renew", 0);
        s.changesNothing(Due.BUSY, "grant", 0, 1).is(9, "grant", 1, 1);
    }

    static void grantOfALeaseThatHasEndedIsAllowed() {
        Story s = story(15, "BUSY").is(9, "grant", 0, 9).is(1, "put", 4, 5, 0).is(1, "advance", 9);
        s.is(11, "grant", 0, 2).is(0, "keysOf", 0).is(2, "remaining", 0).is(0, "revoke", 0);
        s.is(13, "grant", 0, 4).is(13, "renew", 0);
    }

    static void grantTestsInOrder() {
        Story s = story(15, "Tested in this order: length not 1 to 50 answers BAD_ARG; BUSY.");
        s.is(9, "grant", 0, 9).changesNothing(Due.BAD_ARG, "grant", 0, 0);
        s.changesNothing(Due.BAD_ARG, "grant", 0, 51).changesNothing(Due.BUSY, "grant", 0, 1);
        s.changesNothing(Due.BUSY, "grant", 0, 50);
    }

    static void grantAnswersTheTimeAtWhichItEnds() {
        Story s = story(15, "Otherwise the time at which it ends.").is(4, "grant", 0, 4);
        s.is(1, "advance", 100).is(101, "grant", 0, 1).is(150, "grant", 1, 50);
    }

    static void renewEndsItsLengthFromNowOn() {
        Story s = story(16, "Lease l ends its length from now on, instead of when it would.");
        s.is(10, "grant", 3, 10).is(1, "put", 1, 5, 3).is(10, "renew", 3).is(0, "advance", 9);
        s.is(19, "renew", 3).is(10, "remaining", 3).is(0, "advance", 9).is(1, "remaining", 3);
        s.is(5, "value", 1, -1).is(1, "advance", 1).changesNothing(Due.NONE, "value", 1, -1);
    }

    static void renewTakesTheLengthOfTheLastGrant() {
        Story s = story(16, "Lease l ends its length from now on").is(10, "grant", 3, 10);
        s.is(40, "grant", 4, 40).is(0, "revoke", 3).is(4, "grant", 3, 4).is(0, "advance", 1);
        s.is(5, "renew", 3).is(41, "renew", 4);
    }

    static void renewRefusesALeaseThatIsNotOpen() {
        Story s = story(16, "NONE if it is not open.").is(3, "grant", 1, 3).is(9, "grant", 2, 9);
        s.changesNothing(Due.NONE, "renew", 0).changesNothing(Due.NONE, "renew", 5);
        s.is(1, "advance", 3).changesNothing(Due.NONE, "renew", 1).is(0, "revoke", 2);
        s.changesNothing(Due.NONE, "renew", 2).is(0, "advance", 100);
    }

    static void renewAnswersTheTimeAtWhichItEnds() {
        Story s = story(16, "Otherwise the time at which it ends.").is(50, "grant", 0, 50);
        s.is(0, "advance", 49).is(99, "renew", 0).is(0, "advance", 49).is(148, "renew", 0);
    }

    static void revokeEndsTheLeaseNow() {
        Story s = story(17, "Lease l ends now.").is(9, "grant", 2, 9).is(9, "grant", 3, 9);
        s.is(1, "put", 9, 5, 2).is(2, "put", 3, 5, 2).is(3, "put", 6, 5, -1).is(4, "put", 7, 5, 3);
        s.is(0, "watch", 0, 0, 15, -1).is(2, "revoke", 2).is(5, "revision").is(6, "remembered");
        s.is(5, "next", 0).is(3, "handed", 0, 0).is(5, "next", 0).is(9, "handed", 0, 0);
        s.changesNothing(Due.NONE, "remaining", 2).changesNothing(Due.NONE, "put", 0, 5, 2);
        s.is(5, "value", 6, -1).is(5, "value", 7, -1).is(1, "advance", 9);
    }

    static void revokeRefusesALeaseThatIsNotOpen() {
        Story s = story(17, "NONE if it is not open.").is(3, "grant", 1, 3).is(9, "grant", 2, 9);
        s.is(1, "put", 4, 5, 1).is(2, "put", 5, 5, 2).is(3, "put", 6, 5, -1);
        s.changesNothing(Due.NONE, "revoke", 0).changesNothing(Due.NONE, "revoke", 5);
        s.is(1, "advance", 3).changesNothing(Due.NONE, "revoke", 1).is(1, "revoke", 2);
        s.changesNothing(Due.NONE, "revoke", 2);
    }

    static void revokeAnswersHowManyKeysAreErased() {
        Story s = story(17, "Otherwise how many keys are erased.").is(9, "grant", 0, 9);
        s.is(0, "revoke", 0).is(0, "revision").is(9, "grant", 0, 9).is(1, "put", 4, 5, 0);
        s.is(1, "revoke", 0).is(2, "revision").is(9, "grant", 0, 9);
        for (int k = 0; k <= 15; k++) {
            s.is(3 + k, "put", k, 5, 0);
        }
        s.is(16, "revoke", 0).is(19, "revision").is(34, "remembered");
    }

    static void remainingIsTheTimeUntilTheEnd() {
        Story s = story(18, "The time until open lease l ends").is(20, "grant", 1, 20);
        s.is(20, "remaining", 1).is(0, "advance", 0).is(20, "remaining", 1).is(0, "advance", 19);
        s.is(1, "remaining", 1).is(39, "renew", 1).is(20, "remaining", 1).is(0, "advance", 7);
        s.is(13, "remaining", 1).is(27, "grant", 0, 1).is(1, "remaining", 0);
    }

    static void remainingRefusesALeaseThatIsNotOpen() {
        Story s = story(18, "NONE if it is not open").is(3, "grant", 1, 3).is(9, "grant", 2, 9);
        s.changesNothing(Due.NONE, "remaining", 0).changesNothing(Due.NONE, "remaining", 5);
        s.is(1, "advance", 3).changesNothing(Due.NONE, "remaining", 1).is(0, "revoke", 2);
        s.changesNothing(Due.NONE, "remaining", 2);
    }

    static void keysOfCountsTheKeysThatStandUnderIt() {
        Story s = story(19, "The number of keys that stand under lease l").is(5, "grant", 0, 5);
        s.is(6, "grant", 5, 6).is(0, "keysOf", 0).is(1, "put", 0, 5, 0).is(2, "put", 15, 5, 0);
        s.is(3, "put", 7, 5, 5).is(4, "put", 8, 5, -1).is(2, "keysOf", 0).is(1, "keysOf", 5);
        s.is(5, "put", 0, 6, 0).is(2, "keysOf", 0).is(6, "put", 0, 6, 5).is(1, "keysOf", 0);
        s.is(2, "keysOf", 5).is(1, "erase", 7, 7).is(1, "keysOf", 5).is(8, "put", 0, 6, -1);
        s.is(0, "keysOf", 5);
    }

    static void keysOfCanBeAllKeys() {
        Story s = story(19, "The number of keys that stand under lease l").is(5, "grant", 0, 5);
        for (int k = 0; k <= 15; k++) {
            s.is(1 + k, "put", k, 5, 0);
        }
        s.is(16, "keysOf", 0);
    }

    static void keysOfIsZeroIfItIsNotOpen() {
        Story s = story(19, "0 if it is not open").changesNothing(0, "keysOf", 0);
        s.changesNothing(0, "keysOf", 5).is(3, "grant", 1, 3).is(9, "grant", 2, 9);
        s.is(1, "put", 4, 5, 1).is(2, "put", 5, 5, 2).is(3, "put", 6, 5, -1);
        s.changesNothing(0, "keysOf", 0).is(1, "advance", 3).changesNothing(0, "keysOf", 1);
        s.is(1, "revoke", 2).changesNothing(0, "keysOf", 2);
    }

    static void advanceGoesOnByN() {
        Story s = story(20, "Time goes on by n.").is(0, "advance", 0).is(50, "grant", 0, 50);
        s.is(0, "advance", 1).is(49, "remaining", 0).is(0, "advance", 7).is(42, "remaining", 0);
        s.is(1, "advance", 100).is(109, "grant", 0, 1).is(1, "advance", 1).is(110, "grant", 0, 1);
    }

    static void advanceOfZeroAndOfAHundred() {
        Story s = story(20, "BAD_ARG if n is not 0 to 100.").is(50, "grant", 0, 50);
        s.changesNothing(0, "advance", 0).is(1, "advance", 100).is(101, "grant", 0, 1);
        s.changesNothing(0, "advance", 0);
    }

    static void advanceRefusesATimeOutOfRange() {
        Story s = story(20, "BAD_ARG if n is not 0 to 100.").is(1, "grant", 0, 1);
        s.is(1, "put", 4, 5, 0).changesNothing(Due.BAD_ARG, "advance", -1);
        s.changesNothing(Due.BAD_ARG, "advance", 101);
        for (int wild : Due.WILD) {
            s.changesNothing(Due.BAD_ARG, "advance", wild);
        }
    }

    static void advanceAnswersTheNumberOfLeasesThatEnd() {
        Story s = story(20, "Otherwise the number of leases that end.");
        for (int l = 0; l <= 5; l++) {
            s.is(l + 1, "grant", l, l + 1);
        }
        s.is(1, "put", 3, 5, 3).is(2, "put", 4, 5, 3).is(0, "advance", 0).is(1, "advance", 1);
        s.is(2, "advance", 2).is(2, "revision").is(0, "advance", 0).is(1, "advance", 1);
        s.is(3, "revision").is(2, "advance", 100).is(3, "revision").is(0, "advance", 100);
    }

    static void advanceEndsALeaseAtItsEndAndNotBefore() {
        Story s = story(20, "Otherwise the number of leases that end.").is(50, "grant", 0, 50);
        s.is(1, "put", 4, 5, 0).is(0, "advance", 49).is(5, "value", 4, -1).is(1, "advance", 1);
        s.changesNothing(Due.NONE, "value", 4, -1).is(100, "grant", 0, 50).is(1, "advance", 50);
    }

    static void advanceEndsAllSixAtOnce() {
        Story s = story(20, "Otherwise the number of leases that end.");
        for (int l = 0; l <= 5; l++) {
            s.is(8, "grant", l, 8).is(l + 1, "put", 2 * l, 5, l);
        }
        s.is(6, "advance", 8).is(12, "revision").is(12, "remembered").is(0, "count", 0, 15, -1);
    }
}
