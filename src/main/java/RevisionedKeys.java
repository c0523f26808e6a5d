/**
 * A store of keys that remembers how it was at each revision, hands changes out to watches, lets
 * keys end with leases, and forgets what is old.
 *
 * <p>It is held as the keys of now, the keys as they were at the forgotten revision, and the
 * remembered changes that lead from the one to the other: so any revision between can be told, and
 * no array grows with the number of calls.
 */
public final class RevisionedKeys {
    public static final int BAD_ARG = -1000000001;
    public static final int FULL = -1000000002;
    public static final int NONE = -1000000003;
    public static final int FORGOTTEN = -1000000004;
    public static final int LATER = -1000000005;
    public static final int BUSY = -1000000006;

    private static final int KEYS = 16;
    private static final int LEASES = 6;
    private static final int WATCHES = 4;
    private static final int MOST_REMEMBERED = 100;
    // Leases that end are never refused, so beyond the 100 they can still erase each of the 16 keys
    // once: a key is put again only when fewer than 100 are remembered.
    private static final int CHANGE_ROOM = 116;
    private static final int LONGEST_LEASE = 50;
    private static final int LONGEST_ADVANCE = 100;

    private static final int NO_LEASE = -1;
    private static final int PRESENT = -1;
    private static final int NO_CHANGE = -1;
    private static final int ALLOWED = 0;

    private static final int NOT_IN_USE = 0;
    private static final int OPEN = 1;
    private static final int LOST = 2;

    private int presentRevision;
    private int forgottenRevision;
    private int time;

    // A key that does not exist has set revision 0, version 0 and no lease, so that swap and the
    // counting of a lease's keys need not ask whether it exists.
    private final boolean[] keyExists = new boolean[KEYS];
    private final int[] keyMade = new int[KEYS];
    private final int[] keySet = new int[KEYS];
    private final int[] keyVersion = new int[KEYS];
    private final int[] keyLease = new int[KEYS];

    private final boolean[] existedWhenForgotten = new boolean[KEYS];
    private final int[] valueWhenForgotten = new int[KEYS];

    // The remembered changes, oldest first, and those of one revision by key.
    private int changes;
    private final int[] changeRevision = new int[CHANGE_ROOM];
    private final int[] changeKey = new int[CHANGE_ROOM];
    private final boolean[] changeIsPut = new boolean[CHANGE_ROOM];
    private final int[] changeValue = new int[CHANGE_ROOM];

    private final boolean[] leaseOpen = new boolean[LEASES];
    private final int[] leaseLength = new int[LEASES];
    private final int[] leaseEnd = new int[LEASES];

    // A watch's place is the least revision and key that it may hand out next. It names no index,
    // so it stays right when changes are forgotten, and may lie at a revision that is not yet.
    private final int[] watchState = new int[WATCHES];
    private final int[] watchFirstKey = new int[WATCHES];
    private final int[] watchLastKey = new int[WATCHES];
    private final int[] placeRevision = new int[WATCHES];
    private final int[] placeKey = new int[WATCHES];

    // What was handed out is copied, since it can still be asked for when the change is forgotten.
    private final boolean[] handedAny = new boolean[WATCHES];
    private final int[] handedKey = new int[WATCHES];
    private final boolean[] handedIsPut = new boolean[WATCHES];
    private final int[] handedValue = new int[WATCHES];

    public RevisionedKeys() {
        for (int k = 0; k < KEYS; k++) {
            keyLease[k] = NO_LEASE;
        }
    }

    public int put(int k, int x, int l) {
        if (!isKey(k)) {
            return BAD_ARG;
        }
        if (l != NO_LEASE) {
            if (!isLease(l)) {
                return BAD_ARG;
            }
            if (!leaseOpen[l]) {
                return NONE;
            }
        }
        if (changes >= MOST_REMEMBERED) {
            return FULL;
        }
        writePut(k, x, l);
        return presentRevision;
    }

    public int swap(int k, int r, int x) {
        if (!isKey(k)) {
            return BAD_ARG;
        }
        if (keySet[k] != r) {
            return NONE;
        }
        if (changes >= MOST_REMEMBERED) {
            return FULL;
        }
        writePut(k, x, keyLease[k]);
        return presentRevision;
    }

    public int erase(int a, int b) {
        if (!isRange(a, b)) {
            return BAD_ARG;
        }
        int found = countExisting(a, b);
        if (found == 0) {
            return NONE;
        }
        if (changes + found > MOST_REMEMBERED) {
            return FULL;
        }
        presentRevision++;
        for (int k = a; k <= b; k++) {
            if (keyExists[k]) {
                eraseKey(k);
            }
        }
        return found;
    }

    public int revision() {
        return presentRevision;
    }

    public int remembered() {
        return changes;
    }

    public int compact(int r) {
        int refusal = refusalOfRevision(r);
        if (refusal != ALLOWED) {
            return refusal;
        }
        int gone = countChangesUpTo(r);
        loseWatches(gone);
        carryToForgotten(gone);
        dropChanges(gone);
        forgottenRevision = r;
        return changes;
    }

    public int value(int k, int r) {
        if (!isKey(k)) {
            return BAD_ARG;
        }
        int at = revisionMeant(r);
        int refusal = refusalOfRevision(at);
        if (refusal != ALLOWED) {
            return refusal;
        }
        return existedAt(k, at) ? valueAt(k, at) : NONE;
    }

    public int count(int a, int b, int r) {
        int at = revisionMeant(r);
        int refusal = refusalOfRangeAt(a, b, at);
        if (refusal != ALLOWED) {
            return refusal;
        }
        int found = 0;
        for (int k = a; k <= b; k++) {
            if (existedAt(k, at)) {
                found++;
            }
        }
        return found;
    }

    public int keyAt(int a, int b, int i, int r) {
        int at = revisionMeant(r);
        int refusal = refusalOfRangeAt(a, b, at);
        if (refusal != ALLOWED) {
            return refusal;
        }
        int before = 0;
        for (int k = a; k <= b; k++) {
            if (existedAt(k, at)) {
                if (before == i) {
                    return k;
                }
                before++;
            }
        }
        return NONE;
    }

    public int made(int k) {
        if (!isKey(k)) {
            return BAD_ARG;
        }
        return keyExists[k] ? keyMade[k] : NONE;
    }

    public int set(int k) {
        if (!isKey(k)) {
            return BAD_ARG;
        }
        return keyExists[k] ? keySet[k] : NONE;
    }

    public int version(int k) {
        if (!isKey(k)) {
            return BAD_ARG;
        }
        return keyExists[k] ? keyVersion[k] : NONE;
    }

    public int leaseOf(int k) {
        if (!isKey(k)) {
            return BAD_ARG;
        }
        return keyLease[k] != NO_LEASE ? keyLease[k] : NONE;
    }

    public int grant(int l, int length) {
        if (!isLease(l) || length < 1 || length > LONGEST_LEASE) {
            return BAD_ARG;
        }
        if (leaseOpen[l]) {
            return BUSY;
        }
        leaseOpen[l] = true;
        leaseLength[l] = length;
        leaseEnd[l] = time + length;
        return leaseEnd[l];
    }

    public int renew(int l) {
        if (!isLease(l)) {
            return BAD_ARG;
        }
        if (!leaseOpen[l]) {
            return NONE;
        }
        leaseEnd[l] = time + leaseLength[l];
        return leaseEnd[l];
    }

    public int revoke(int l) {
        if (!isLease(l)) {
            return BAD_ARG;
        }
        if (!leaseOpen[l]) {
            return NONE;
        }
        return endLease(l);
    }

    public int remaining(int l) {
        if (!isLease(l)) {
            return BAD_ARG;
        }
        return leaseOpen[l] ? leaseEnd[l] - time : NONE;
    }

    public int keysOf(int l) {
        if (!isLease(l)) {
            return BAD_ARG;
        }
        return countUnder(l);
    }

    public int advance(int n) {
        if (n < 0 || n > LONGEST_ADVANCE) {
            return BAD_ARG;
        }
        int ended = 0;
        for (int step = 0; step < n; step++) {
            time++;
            ended += endLeasesDue();
        }
        return ended;
    }

    public int watch(int w, int a, int b, int r) {
        if (!isWatch(w) || !isRange(a, b)) {
            return BAD_ARG;
        }
        if (watchState[w] != NOT_IN_USE) {
            return BUSY;
        }
        int first = r == PRESENT ? presentRevision + 1 : r;
        if (first <= forgottenRevision) {
            return FORGOTTEN;
        }
        watchState[w] = OPEN;
        watchFirstKey[w] = a;
        watchLastKey[w] = b;
        placeRevision[w] = first;
        placeKey[w] = 0;
        handedAny[w] = false;
        return 0;
    }

    public int unwatch(int w) {
        if (!isWatch(w)) {
            return BAD_ARG;
        }
        if (watchState[w] == NOT_IN_USE) {
            return NONE;
        }
        int answer = watchState[w] == LOST ? 1 : 0;
        watchState[w] = NOT_IN_USE;
        return answer;
    }

    public int next(int w) {
        int refusal = refusalOfHandingOut(w);
        if (refusal != ALLOWED) {
            return refusal;
        }
        for (int i = 0; i < changes; i++) {
            if (isStillToHandOut(w, i)) {
                handOut(w, i);
                return changeRevision[i];
            }
        }
        return NONE;
    }

    public int handed(int w, int what) {
        if (!isWatch(w) || what < 0 || what > 2) {
            return BAD_ARG;
        }
        if (watchState[w] == NOT_IN_USE || !handedAny[w]) {
            return NONE;
        }
        if (what == 0) {
            return handedKey[w];
        }
        if (what == 1) {
            return handedIsPut[w] ? 1 : 0;
        }
        return handedValue[w];
    }

    public int waiting(int w) {
        int refusal = refusalOfHandingOut(w);
        if (refusal != ALLOWED) {
            return refusal;
        }
        return countStillToHandOut(w, changes);
    }

    private static boolean isKey(int k) {
        return k >= 0 && k < KEYS;
    }

    private static boolean isLease(int l) {
        return l >= 0 && l < LEASES;
    }

    private static boolean isWatch(int w) {
        return w >= 0 && w < WATCHES;
    }

    private static boolean isRange(int a, int b) {
        return isKey(a) && isKey(b);
    }

    private int revisionMeant(int r) {
        return r == PRESENT ? presentRevision : r;
    }

    private int refusalOfRevision(int r) {
        if (r < forgottenRevision) {
            return FORGOTTEN;
        }
        return r > presentRevision ? LATER : ALLOWED;
    }

    private int refusalOfRangeAt(int a, int b, int r) {
        return isRange(a, b) ? refusalOfRevision(r) : BAD_ARG;
    }

    private int refusalOfHandingOut(int w) {
        if (!isWatch(w)) {
            return BAD_ARG;
        }
        if (watchState[w] == NOT_IN_USE) {
            return NONE;
        }
        return watchState[w] == LOST ? FORGOTTEN : ALLOWED;
    }

    private int countExisting(int a, int b) {
        int found = 0;
        for (int k = a; k <= b; k++) {
            if (keyExists[k]) {
                found++;
            }
        }
        return found;
    }

    private int countUnder(int l) {
        int found = 0;
        for (int k = 0; k < KEYS; k++) {
            if (keyLease[k] == l) {
                found++;
            }
        }
        return found;
    }

    private void writePut(int k, int x, int l) {
        presentRevision++;
        if (!keyExists[k]) {
            keyExists[k] = true;
            keyMade[k] = presentRevision;
        }
        keySet[k] = presentRevision;
        keyVersion[k]++;
        keyLease[k] = l;
        remember(k, true, x);
    }

    // The caller has begun the writing, since one writing can erase several keys.
    private void eraseKey(int k) {
        keyExists[k] = false;
        keySet[k] = 0;
        keyVersion[k] = 0;
        keyLease[k] = NO_LEASE;
        remember(k, false, 0);
    }

    private void remember(int k, boolean isPut, int x) {
        // Never so, as said at CHANGE_ROOM, but then the indexes below need no proof to be safe.
        if (changes >= CHANGE_ROOM) {
            return;
        }
        changeRevision[changes] = presentRevision;
        changeKey[changes] = k;
        changeIsPut[changes] = isPut;
        changeValue[changes] = x;
        changes++;
    }

    private int lastChangeOf(int k, int r) {
        int last = NO_CHANGE;
        for (int i = 0; i < changes; i++) {
            if (changeKey[i] == k && changeRevision[i] <= r) {
                last = i;
            }
        }
        return last;
    }

    private boolean existedAt(int k, int r) {
        int i = lastChangeOf(k, r);
        return i == NO_CHANGE ? existedWhenForgotten[k] : changeIsPut[i];
    }

    private int valueAt(int k, int r) {
        int i = lastChangeOf(k, r);
        return i == NO_CHANGE ? valueWhenForgotten[k] : changeValue[i];
    }

    private int countChangesUpTo(int r) {
        int found = 0;
        for (int i = 0; i < changes; i++) {
            if (changeRevision[i] <= r) {
                found++;
            }
        }
        return found;
    }

    private void loseWatches(int gone) {
        for (int w = 0; w < WATCHES; w++) {
            if (watchState[w] == OPEN && countStillToHandOut(w, gone) > 0) {
                watchState[w] = LOST;
            }
        }
    }

    private void carryToForgotten(int gone) {
        for (int i = 0; i < gone; i++) {
            existedWhenForgotten[changeKey[i]] = changeIsPut[i];
            valueWhenForgotten[changeKey[i]] = changeValue[i];
        }
    }

    private void dropChanges(int gone) {
        for (int i = gone; i < changes; i++) {
            changeRevision[i - gone] = changeRevision[i];
            changeKey[i - gone] = changeKey[i];
            changeIsPut[i - gone] = changeIsPut[i];
            changeValue[i - gone] = changeValue[i];
        }
        changes -= gone;
    }

    private int endLeasesDue() {
        int ended = 0;
        for (int l = 0; l < LEASES; l++) {
            if (leaseOpen[l] && leaseEnd[l] == time) {
                endLease(l);
                ended++;
            }
        }
        return ended;
    }

    private int endLease(int l) {
        leaseOpen[l] = false;
        int found = countUnder(l);
        if (found > 0) {
            presentRevision++;
        }
        for (int k = 0; k < KEYS; k++) {
            if (keyLease[k] == l) {
                eraseKey(k);
            }
        }
        return found;
    }

    private boolean isStillToHandOut(int w, int i) {
        int k = changeKey[i];
        if (k < watchFirstKey[w] || k > watchLastKey[w]) {
            return false;
        }
        if (changeRevision[i] == placeRevision[w]) {
            return k >= placeKey[w];
        }
        return changeRevision[i] > placeRevision[w];
    }

    private int countStillToHandOut(int w, int among) {
        int found = 0;
        for (int i = 0; i < among; i++) {
            if (isStillToHandOut(w, i)) {
                found++;
            }
        }
        return found;
    }

    private void handOut(int w, int i) {
        placeRevision[w] = changeRevision[i];
        placeKey[w] = changeKey[i] + 1;
        handedAny[w] = true;
        handedKey[w] = changeKey[i];
        handedIsPut[w] = changeIsPut[i];
        handedValue[w] = changeValue[i];
    }
}
