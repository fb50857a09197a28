/** Promises 1 (a new object), 2 (put), 3 (delete), 13 (revision), 16 (attribute), and 18 for these calls. */
public final class ChangeTest {
    private static final int MIN = Integer.MIN_VALUE;
    private static final int MAX = Integer.MAX_VALUE;

    private ChangeTest() {
    }

    public static void main(String[] args) {
        newObject();
        twoObjectsShareNothing();
        putMakesAndChangesKeys();
        putAttachesAndDetachesLeases();
        putRefusals();
        deleteMakesKeysAbsent();
        deleteRefusals();
        fullHistory();
        attributeRefusals();
        Due.finish();
    }

    private static void newObject() {
        LeasedConfig x = new LeasedConfig();
        Due.due("new: revision()", x.revision(), 0);
        for (int key = 0; key <= 15; key++) {
            Due.due("new: has(" + key + ", 0)", x.has(key, 0), false);
            Due.due("new: get(" + key + ", 0)", x.get(key, 0), 0);
            attributes("new: key " + key, x, key, new int[] {0, 0, 0, 0, -1});
        }
        for (int lease = 0; lease <= 3; lease++) {
            Due.due("new: keep(" + lease + ")", x.keep(lease), LeasedConfig.NO_LEASE);
        }
        Due.due("new: events(MIN, MAX, 1)", x.events(MIN, MAX, 1), 0);
        Due.due("new: events(MIN, MAX, 0)", x.events(MIN, MAX, 0), LeasedConfig.BAD_REVISION);
        Due.due("new: compact(0)", x.compact(0), 0);
        Due.due("new: first condition", x.when(0, 0, 0, 1), 1);
        Due.due("new: first action", x.thenPut(0, 0, false), 1);
        Due.due("new: first other action", x.thenPut(0, 0, true), 1);
        Due.due("new: time is 0", x.grant(0, 1), 1);
    }

    private static void twoObjectsShareNothing() {
        LeasedConfig x = new LeasedConfig();
        LeasedConfig y = new LeasedConfig();
        x.grant(1, 5);
        x.put(4, 44, 1);
        Due.due("other object: revision()", y.revision(), 0);
        Due.due("other object: attribute(0, 4)", y.attribute(0, 4), 0);
        Due.due("other object: keep(1)", y.keep(1), LeasedConfig.NO_LEASE);
    }

    private static void putMakesAndChangesKeys() {
        LeasedConfig x = new LeasedConfig();
        Due.due("put(0, 7, -1)", x.put(0, 7, -1), 1);
        Due.due("put(15, MIN, -1)", x.put(15, MIN, -1), 2);
        Due.due("put(15, MAX, -1)", x.put(15, MAX, -1), 3);
        attributes("put once", x, 0, new int[] {7, 1, 1, 1, -1});
        attributes("put twice", x, 15, new int[] {MAX, 2, 3, 2, -1});
        Due.due("put of the same value is a change", x.put(15, MAX, -1), 4);
        attributes("put thrice", x, 15, new int[] {MAX, 3, 4, 2, -1});
        Due.due("put of 0 makes a key present", x.put(3, 0, -1), 5);
        Due.due("has(3, 5)", x.has(3, 5), true);
        attributes("value 0", x, 3, new int[] {0, 1, 5, 5, -1});
        Due.due("revision()", x.revision(), 5);
        Due.due("one event each", x.events(0, 15, 1), 5);
    }

    private static void putAttachesAndDetachesLeases() {
        LeasedConfig x = new LeasedConfig();
        x.grant(0, 10);
        x.grant(3, 10);
        x.put(1, 11, 0);
        Due.due("lease 0", x.attribute(4, 1), 0);
        x.put(1, 12, 3);
        Due.due("lease 3", x.attribute(4, 1), 3);
        Due.due("revoke(0) finds no key", x.revoke(0), 0);
        x.put(1, 13, -1);
        Due.due("no lease", x.attribute(4, 1), -1);
        Due.due("revoke(3) finds no key", x.revoke(3), 0);
        attributes("kept its create revision", x, 1, new int[] {13, 3, 3, 1, -1});
    }

    private static void putRefusals() {
        LeasedConfig x = new LeasedConfig();
        x.grant(2, 10);
        int[] badKeys = {-1, 16, MIN, MAX};
        for (int key : badKeys) {
            Due.due("put(" + key + ", 1, -1)", x.put(key, 1, -1), LeasedConfig.BAD_KEY);
            Due.due("put(" + key + ", 1, 9)", x.put(key, 1, 9), LeasedConfig.BAD_KEY);
        }
        int[] badLeases = {-2, 0, 1, 3, 4, MIN, MAX};
        for (int lease : badLeases) {
            Due.due("put(1, 1, " + lease + ")", x.put(1, 1, lease), LeasedConfig.NO_LEASE);
        }
        Due.due("refused: revision()", x.revision(), 0);
        Due.due("refused: has(1, 0)", x.has(1, 0), false);
        Due.due("put(1, 1, 2)", x.put(1, 1, 2), 1);
        x.revoke(2);
        Due.due("put with a revoked lease", x.put(1, 1, 2), LeasedConfig.NO_LEASE);
    }

    private static void deleteMakesKeysAbsent() {
        LeasedConfig x = new LeasedConfig();
        x.grant(1, 10);
        x.put(0, 5, 1);
        x.put(15, 6, -1);
        Due.due("delete(0)", x.delete(0), 3);
        attributes("deleted", x, 0, new int[] {0, 0, 0, 0, -1});
        attributes("the other key", x, 15, new int[] {6, 1, 2, 2, -1});
        Due.due("revoke finds no deleted key", x.revoke(1), 0);
        Due.due("put again", x.put(0, 8, -1), 4);
        attributes("made anew", x, 0, new int[] {8, 1, 4, 4, -1});
        Due.due("delete(15)", x.delete(15), 5);
        Due.due("revision()", x.revision(), 5);
        Due.due("one event each", x.events(0, 15, 1), 5);
    }

    private static void deleteRefusals() {
        LeasedConfig x = new LeasedConfig();
        x.put(2, 2, -1);
        int[] badKeys = {-1, 16, MIN, MAX};
        for (int key : badKeys) {
            Due.due("delete(" + key + ")", x.delete(key), LeasedConfig.BAD_KEY);
        }
        Due.due("delete(1) of an absent key", x.delete(1), LeasedConfig.NO_KEY);
        Due.due("refused: revision()", x.revision(), 1);
        x.delete(2);
        Due.due("delete(2) for the second time", x.delete(2), LeasedConfig.NO_KEY);
    }

    private static void fullHistory() {
        LeasedConfig x = new LeasedConfig();
        for (int i = 1; i <= 59; i++) {
            Due.due("put number " + i, x.put(4, i, -1), i);
        }
        Due.due("delete with 59 events", x.delete(4), 60);
        Due.due("put with 60 events", x.put(4, 1, -1), LeasedConfig.FULL);
        Due.due("full: BAD_KEY comes first", x.put(16, 1, 0), LeasedConfig.BAD_KEY);
        Due.due("full: NO_LEASE comes before FULL", x.put(4, 1, 0), LeasedConfig.NO_LEASE);
        Due.due("full: NO_KEY comes before FULL", x.delete(4), LeasedConfig.NO_KEY);
        Due.due("full: delete's BAD_KEY comes first", x.delete(-1), LeasedConfig.BAD_KEY);
        Due.due("full: revision()", x.revision(), 60);
        Due.due("compact(1)", x.compact(1), 59);
        Due.due("put with 59 events", x.put(4, 1, -1), 61);
        Due.due("delete with 60 events", x.delete(4), LeasedConfig.FULL);
        attributes("full: not deleted", x, 4, new int[] {1, 1, 61, 61, -1});
        Due.due("full: put of a present key", x.put(4, 2, -1), LeasedConfig.FULL);
        attributes("full: not put", x, 4, new int[] {1, 1, 61, 61, -1});
    }

    private static void attributeRefusals() {
        LeasedConfig x = new LeasedConfig();
        x.put(0, 9, -1);
        int[] bad = {-1, 16, MIN, MAX};
        for (int key : bad) {
            Due.due("attribute(0, " + key + ")", x.attribute(0, key), LeasedConfig.BAD_KEY);
            Due.due("attribute(9, " + key + ")", x.attribute(9, key), LeasedConfig.BAD_KEY);
        }
        int[] badKinds = {-1, 5, MIN, MAX};
        for (int kind : badKinds) {
            Due.due("attribute(" + kind + ", 0)", x.attribute(kind, 0), LeasedConfig.BAD_KIND);
            Due.due("attribute(" + kind + ", 1)", x.attribute(kind, 1), LeasedConfig.BAD_KIND);
        }
        Due.due("attribute changes nothing", x.revision(), 1);
    }

    // want: value, version, mod, create, lease, in the order of the kinds
    private static void attributes(String about, LeasedConfig x, int key, int[] want) {
        for (int kind = 0; kind <= 4; kind++) {
            Due.due(about + ": attribute(" + kind + ", " + key + ")", x.attribute(kind, key), want[kind]);
        }
    }
}
