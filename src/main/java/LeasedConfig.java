/** A configuration store with revisions, transactions and leases. */
public final class LeasedConfig {
    public static final int BAD_KEY = -1;
    public static final int BAD_KIND = -2;
    public static final int NO_LEASE = -3;
    public static final int NO_KEY = -4;
    public static final int FULL = -5;
    public static final int HELD = -6;
    public static final int BAD_REVISION = -7;
    public static final int BAD_TIME = -8;

    private static final int KEYS = 16;
    private static final int LEASES = 4;
    private static final int NONE = -1;
    private static final int MAX_TTL = 50;
    private static final int MAX_PASS = 100;

    private static final int MAX_CONDITIONS = 4;
    private static final int LIST_ROOM = 4;
    private static final int LISTS = 2;
    private static final int ACTION_ROOM = 8;
    private static final int HELD_LIST = 0;
    private static final int OTHERWISE_LIST = 1;

    private static final int KIND_VALUE = 0;
    private static final int KIND_VERSION = 1;
    private static final int KIND_MOD = 2;
    private static final int KIND_CREATE = 3;
    private static final int KIND_LEASE = 4;

    private static final int CMP_EQUAL = 0;
    private static final int CMP_NOT_EQUAL = 1;
    private static final int CMP_LESS = 2;
    private static final int CMP_GREATER = 3;

    private static final int FULL_HISTORY = 60;
    private static final int COMMIT_HISTORY = 56;
    // The end of a lease is never refused as FULL: sixty events can still be
    // followed by a delete of every key, and no key comes back before a compact.
    private static final int EVENT_ROOM = 76;

    // An absent key holds 0 in every attribute and NONE as its lease, so that
    // attributes are read without asking whether the key is present.
    private final boolean[] present = new boolean[KEYS];
    private final int[] values = new int[KEYS];
    private final int[] creates = new int[KEYS];
    private final int[] mods = new int[KEYS];
    private final int[] versions = new int[KEYS];
    private final int[] keyLeases = new int[KEYS];

    // The keys as of the oldest revision: what history starts from.
    private final boolean[] oldestPresent = new boolean[KEYS];
    private final int[] oldestValues = new int[KEYS];

    // History, in the order of the revisions.
    private final int[] eventRevisions = new int[EVENT_ROOM];
    private final int[] eventKeys = new int[EVENT_ROOM];
    private final boolean[] eventPuts = new boolean[EVENT_ROOM];
    private final int[] eventValues = new int[EVENT_ROOM];
    private int eventCount = 0;

    private final int[] conditionKinds = new int[MAX_CONDITIONS];
    private final int[] conditionKeys = new int[MAX_CONDITIONS];
    private final int[] conditionCmps = new int[MAX_CONDITIONS];
    private final int[] conditionNumbers = new int[MAX_CONDITIONS];
    private int conditionCount = 0;

    // Both lists of actions, one behind the other.
    private final int[] actionKeys = new int[ACTION_ROOM];
    private final boolean[] actionPuts = new boolean[ACTION_ROOM];
    private final int[] actionValues = new int[ACTION_ROOM];
    private final int[] actionCounts = new int[LISTS];

    private final boolean[] granted = new boolean[LEASES];
    private final int[] ttls = new int[LEASES];
    private final int[] expiries = new int[LEASES];

    private int newest = 0;
    private int oldest = 0;
    private int time = 0;

    public LeasedConfig() {
        for (int key = 0; key < KEYS; key++) {
            keyLeases[key] = NONE;
        }
    }

    public int put(int key, int value, int lease) {
        if (!isKey(key)) {
            return BAD_KEY;
        }
        if (lease != NONE && !isGranted(lease)) {
            return NO_LEASE;
        }
        if (eventCount >= FULL_HISTORY) {
            return FULL;
        }
        newest++;
        putKey(key, value, lease);
        return newest;
    }

    public int delete(int key) {
        if (!isKey(key)) {
            return BAD_KEY;
        }
        if (!present[key]) {
            return NO_KEY;
        }
        if (eventCount >= FULL_HISTORY) {
            return FULL;
        }
        newest++;
        deleteKey(key);
        return newest;
    }

    public int when(int kind, int key, int cmp, int number) {
        if (!isKey(key)) {
            return BAD_KEY;
        }
        if (kind < KIND_VALUE || kind > KIND_CREATE || cmp < CMP_EQUAL || cmp > CMP_GREATER) {
            return BAD_KIND;
        }
        if (conditionCount >= MAX_CONDITIONS) {
            return FULL;
        }
        conditionKinds[conditionCount] = kind;
        conditionKeys[conditionCount] = key;
        conditionCmps[conditionCount] = cmp;
        conditionNumbers[conditionCount] = number;
        conditionCount++;
        return conditionCount;
    }

    public int thenPut(int key, int value, boolean otherwise) {
        return addAction(key, true, value, otherwise);
    }

    public int thenDelete(int key, boolean otherwise) {
        return addAction(key, false, 0, otherwise);
    }

    public int commit() {
        if (eventCount > COMMIT_HISTORY) {
            return FULL;
        }
        boolean held = conditionsHold();
        carryOut(held ? HELD_LIST : OTHERWISE_LIST);
        forgetTransaction();
        return held ? 1 : 0;
    }

    public int grant(int lease, int ttl) {
        if (!isLease(lease)) {
            return NO_LEASE;
        }
        if (granted[lease]) {
            return HELD;
        }
        if (ttl < 1 || ttl > MAX_TTL) {
            return BAD_TIME;
        }
        granted[lease] = true;
        ttls[lease] = ttl;
        expiries[lease] = time + ttl;
        return expiries[lease];
    }

    public int keep(int lease) {
        if (!isGranted(lease)) {
            return NO_LEASE;
        }
        expiries[lease] = time + ttls[lease];
        return expiries[lease];
    }

    public int revoke(int lease) {
        if (!isGranted(lease)) {
            return NO_LEASE;
        }
        return endLease(lease);
    }

    public int pass(int n) {
        if (n < 0 || n > MAX_PASS) {
            return BAD_TIME;
        }
        time += n;
        int ended = 0;
        for (int round = 0; round < LEASES; round++) {
            int lease = firstExpired();
            if (lease == NONE) {
                break;
            }
            endLease(lease);
            ended++;
        }
        return ended;
    }

    public int compact(int revision) {
        if (!isKept(revision)) {
            return BAD_REVISION;
        }
        int dropped = 0;
        for (int i = 0; i < eventCount; i++) {
            if (eventRevisions[i] <= revision) {
                oldestPresent[eventKeys[i]] = eventPuts[i];
                oldestValues[eventKeys[i]] = eventValues[i];
                dropped++;
            }
        }
        dropEvents(dropped);
        oldest = revision;
        return eventCount;
    }

    public int revision() {
        return newest;
    }

    public int get(int key, int revision) {
        if (!isKey(key)) {
            return BAD_KEY;
        }
        if (!isKept(revision)) {
            return BAD_REVISION;
        }
        int event = lastEvent(key, revision);
        return event == NONE ? oldestValues[key] : eventValues[event];
    }

    public boolean has(int key, int revision) {
        if (!isKey(key) || !isKept(revision)) {
            return false;
        }
        int event = lastEvent(key, revision);
        return event == NONE ? oldestPresent[key] : eventPuts[event];
    }

    public int attribute(int kind, int key) {
        if (!isKey(key)) {
            return BAD_KEY;
        }
        if (kind < KIND_VALUE || kind > KIND_LEASE) {
            return BAD_KIND;
        }
        return readAttribute(kind, key);
    }

    public int events(int lo, int hi, int from) {
        if (from <= oldest || from > newest + 1) {
            return BAD_REVISION;
        }
        int count = 0;
        for (int i = 0; i < eventCount; i++) {
            if (eventRevisions[i] >= from && eventKeys[i] >= lo && eventKeys[i] <= hi) {
                count++;
            }
        }
        return count;
    }

    private static boolean isKey(int key) {
        return key >= 0 && key < KEYS;
    }

    private static boolean isLease(int lease) {
        return lease >= 0 && lease < LEASES;
    }

    private boolean isGranted(int lease) {
        return isLease(lease) && granted[lease];
    }

    private boolean isKept(int revision) {
        return revision >= oldest && revision <= newest;
    }

    private int readAttribute(int kind, int key) {
        switch (kind) {
            case KIND_VALUE:
                return values[key];
            case KIND_VERSION:
                return versions[key];
            case KIND_MOD:
                return mods[key];
            case KIND_CREATE:
                return creates[key];
            default:
                return keyLeases[key];
        }
    }

    // The caller has already made the new revision: one change can have several events.
    private void putKey(int key, int value, int lease) {
        if (!present[key]) {
            present[key] = true;
            creates[key] = newest;
        }
        versions[key]++;
        mods[key] = newest;
        values[key] = value;
        keyLeases[key] = lease;
        addEvent(key, true, value);
    }

    // As with putKey, the new revision is the caller's.
    private void deleteKey(int key) {
        present[key] = false;
        creates[key] = 0;
        versions[key] = 0;
        mods[key] = 0;
        values[key] = 0;
        keyLeases[key] = NONE;
        addEvent(key, false, 0);
    }

    private void addEvent(int key, boolean isPut, int value) {
        // Never so, by the reckoning at EVENT_ROOM; looked at because no call may throw.
        if (eventCount >= EVENT_ROOM) {
            return;
        }
        eventRevisions[eventCount] = newest;
        eventKeys[eventCount] = key;
        eventPuts[eventCount] = isPut;
        eventValues[eventCount] = value;
        eventCount++;
    }

    private void dropEvents(int dropped) {
        for (int i = dropped; i < eventCount; i++) {
            eventRevisions[i - dropped] = eventRevisions[i];
            eventKeys[i - dropped] = eventKeys[i];
            eventPuts[i - dropped] = eventPuts[i];
            eventValues[i - dropped] = eventValues[i];
        }
        eventCount -= dropped;
    }

    private int lastEvent(int key, int revision) {
        for (int i = eventCount - 1; i >= 0; i--) {
            if (eventKeys[i] == key && eventRevisions[i] <= revision) {
                return i;
            }
        }
        return NONE;
    }

    private int addAction(int key, boolean isPut, int value, boolean otherwise) {
        if (!isKey(key)) {
            return BAD_KEY;
        }
        int list = otherwise ? OTHERWISE_LIST : HELD_LIST;
        if (listNames(list, key)) {
            return BAD_KIND;
        }
        if (actionCounts[list] >= LIST_ROOM) {
            return FULL;
        }
        int place = list * LIST_ROOM + actionCounts[list];
        actionKeys[place] = key;
        actionPuts[place] = isPut;
        actionValues[place] = value;
        actionCounts[list]++;
        return actionCounts[list];
    }

    private boolean listNames(int list, int key) {
        int start = list * LIST_ROOM;
        int end = start + actionCounts[list];
        for (int i = start; i < end; i++) {
            if (actionKeys[i] == key) {
                return true;
            }
        }
        return false;
    }

    private boolean conditionsHold() {
        for (int i = 0; i < conditionCount; i++) {
            int current = readAttribute(conditionKinds[i], conditionKeys[i]);
            if (!compares(current, conditionCmps[i], conditionNumbers[i])) {
                return false;
            }
        }
        return true;
    }

    private static boolean compares(int current, int cmp, int number) {
        switch (cmp) {
            case CMP_EQUAL:
                return current == number;
            case CMP_NOT_EQUAL:
                return current != number;
            case CMP_LESS:
                return current < number;
            default:
                return current > number;
        }
    }

    private void carryOut(int list) {
        if (!listChanges(list)) {
            return;
        }
        newest++;
        int start = list * LIST_ROOM;
        int end = start + actionCounts[list];
        for (int i = start; i < end; i++) {
            int key = actionKeys[i];
            if (actionPuts[i]) {
                putKey(key, actionValues[i], NONE);
            } else if (present[key]) {
                deleteKey(key);
            }
        }
    }

    private boolean listChanges(int list) {
        int start = list * LIST_ROOM;
        int end = start + actionCounts[list];
        for (int i = start; i < end; i++) {
            if (actionPuts[i] || present[actionKeys[i]]) {
                return true;
            }
        }
        return false;
    }

    private void forgetTransaction() {
        conditionCount = 0;
        actionCounts[HELD_LIST] = 0;
        actionCounts[OTHERWISE_LIST] = 0;
    }

    private int endLease(int lease) {
        granted[lease] = false;
        int count = countKeysWith(lease);
        if (count == 0) {
            return 0;
        }
        newest++;
        for (int key = 0; key < KEYS; key++) {
            if (keyLeases[key] == lease) {
                deleteKey(key);
            }
        }
        return count;
    }

    private int countKeysWith(int lease) {
        int count = 0;
        for (int key = 0; key < KEYS; key++) {
            if (keyLeases[key] == lease) {
                count++;
            }
        }
        return count;
    }

    private int firstExpired() {
        int first = NONE;
        for (int lease = 0; lease < LEASES; lease++) {
            if (!granted[lease] || expiries[lease] > time) {
                continue;
            }
            if (first == NONE || expiries[lease] < expiries[first]) {
                first = lease;
            }
        }
        return first;
    }
}
