/** Each sentence of promises 1 to 3 that names a boundary, on both sides of it. */
public final class ChangeBoundaryTest {
    private static final int MIN = Integer.MIN_VALUE;
    private static final int MAX = Integer.MAX_VALUE;
    private static final int[] BAD_KEYS = {-1, 16, MIN, MAX};
    private static final int[] EDGE_KEYS = {0, 15};
    private static final int[] NEVER_LEASES = {-2, 4, MIN, MAX};
    private static final int[] VALUES = {MIN, -1, 0, 1, MAX};

    private ChangeBoundaryTest() {
    }

    public static void main(String[] args) {
        newObjectIsAtRevision0();
        newObjectHasNoLease();
        newObjectHasNoTransaction();
        putRefusesBadKeys();
        putTakesEveryKeyAndValue();
        putRefusesLeases();
        putTakesNoneAndGrantedLeases();
        putRefusesAtSixtyEvents();
        putTakesTheSixtiethEvent();
        deleteRefusesBadKeys();
        deleteRefusesAbsentKeys();
        deleteTakesEveryPresentKey();
        deleteRefusesAtSixtyEvents();
        deleteTakesTheSixtiethEvent();
        Due.finish();
    }

    // Promise 1: "As said above": R is 0, all keys are absent, the oldest revision is 0, so is time.
    private static void newObjectIsAtRevision0() {
        LeasedConfig x = new LeasedConfig();
        Due.due("new: revision()", x.revision(), 0);
        for (int key = 0; key <= 15; key++) {
            Due.due("new: has(" + key + ", 0)", x.has(key, 0), false);
            Due.due("new: delete(" + key + ")", x.delete(key), LeasedConfig.NO_KEY);
            Due.due("new: lease of key " + key, x.attribute(4, key), -1);
            for (int kind = 0; kind <= 3; kind++) {
                Due.due("new: attribute(" + kind + ", " + key + ")", x.attribute(kind, key), 0);
            }
        }
        Due.due("new: get(0, -1)", x.get(0, -1), LeasedConfig.BAD_REVISION);
        Due.due("new: get(0, 0)", x.get(0, 0), 0);
        Due.due("new: get(0, 1)", x.get(0, 1), LeasedConfig.BAD_REVISION);
        Due.due("new: events from 0", x.events(MIN, MAX, 0), LeasedConfig.BAD_REVISION);
        Due.due("new: events from 1", x.events(MIN, MAX, 1), 0);
        Due.due("new: events from 2", x.events(MIN, MAX, 2), LeasedConfig.BAD_REVISION);
        Due.due("new: compact(-1)", x.compact(-1), LeasedConfig.BAD_REVISION);
        Due.due("new: compact(0)", x.compact(0), 0);
        Due.due("new: compact(1)", x.compact(1), LeasedConfig.BAD_REVISION);
        Due.due("new: the first revision is 1", x.put(0, 0, -1), 1);
    }

    // Promise 1: "no leases are granted"
    private static void newObjectHasNoLease() {
        LeasedConfig x = new LeasedConfig();
        for (int lease = 0; lease <= 3; lease++) {
            Due.due("new: put with lease " + lease, x.put(0, 1, lease), LeasedConfig.NO_LEASE);
            Due.due("new: keep(" + lease + ")", x.keep(lease), LeasedConfig.NO_LEASE);
            Due.due("new: revoke(" + lease + ")", x.revoke(lease), LeasedConfig.NO_LEASE);
        }
        Due.due("new: pass(100)", x.pass(100), 0);
        for (int lease = 0; lease <= 3; lease++) {
            Due.due("new: grant(" + lease + ", 1) at time 100", x.grant(lease, 1), 101);
        }
    }

    // Promise 1: "no transaction is being put together"
    private static void newObjectHasNoTransaction() {
        LeasedConfig x = new LeasedConfig();
        Due.due("new: commit()", x.commit(), 1);
        Due.due("new: commit makes no revision", x.revision(), 0);
        LeasedConfig y = new LeasedConfig();
        for (int i = 1; i <= 4; i++) {
            Due.due("new: condition " + i, y.when(0, 0, 0, 0), i);
            Due.due("new: action " + i, y.thenPut(i, i, false), i);
            Due.due("new: other action " + i, y.thenDelete(i, true), i);
        }
    }

    // Promise 2: "key not in 0 to 15: BAD_KEY", before the lease and before FULL
    private static void putRefusesBadKeys() {
        int[] leases = {-1, -2, 0, 1, 3, 4, MIN, MAX};
        for (Scene scene : Scene.ALL) {
            for (int key : BAD_KEYS) {
                for (int lease : leases) {
                    Unchanged.due(scene, "put(" + key + ", 1, " + lease + ")", x -> x.put(key, 1, lease),
                        LeasedConfig.BAD_KEY);
                }
            }
        }
    }

    private static void putTakesEveryKeyAndValue() {
        for (int value : VALUES) {
            LeasedConfig x = new LeasedConfig();
            for (int key = 0; key <= 15; key++) {
                Due.due("put(" + key + ", " + value + ", -1)", x.put(key, value, -1), key + 1);
                Due.due("present", x.has(key, key + 1), true);
                Due.due("absent before", x.has(key, key), false);
                Due.due("get", x.get(key, key + 1), value);
                Due.due("value", x.attribute(0, key), value);
                Due.due("version", x.attribute(1, key), 1);
                Due.due("mod", x.attribute(2, key), key + 1);
                Due.due("create", x.attribute(3, key), key + 1);
                Due.due("lease", x.attribute(4, key), -1);
                Due.due("its one event", x.events(key, key, 1), 1);
                Due.due("no other event", x.events(MIN, MAX, 1), key + 1);
            }
        }
    }

    // Promise 2: "lease not -1 (none) and not a granted lease: NO_LEASE", before FULL
    private static void putRefusesLeases() {
        for (Scene scene : Scene.ALL) {
            for (int key : EDGE_KEYS) {
                for (int lease : NEVER_LEASES) {
                    putRefusesLease(scene, key, lease);
                }
                for (int lease : scene.free()) {
                    putRefusesLease(scene, key, lease);
                }
            }
        }
    }

    private static void putRefusesLease(Scene scene, int key, int lease) {
        Unchanged.due(scene, "put(" + key + ", 1, " + lease + ")", x -> x.put(key, 1, lease), LeasedConfig.NO_LEASE);
    }

    private static void putTakesNoneAndGrantedLeases() {
        for (int granted = 0; granted <= 3; granted++) {
            LeasedConfig x = new LeasedConfig();
            Due.due("not granted yet", x.put(15, 1, granted), LeasedConfig.NO_LEASE);
            x.grant(granted, 2);
            for (int lease = -1; lease <= 3; lease++) {
                boolean good = lease == -1 || lease == granted;
                int revision = x.revision();
                Due.due("only " + granted + " is granted: put(15, 1, " + lease + ")", x.put(15, 1, lease),
                    good ? revision + 1 : LeasedConfig.NO_LEASE);
            }
            Due.due("the lease last named", x.attribute(4, 15), granted);
            x.put(15, 1, -1);
            Due.due("none is named", x.attribute(4, 15), -1);
            x.pass(1);
            Due.due("one before the expiry", x.put(15, 1, granted), 4);
            x.pass(1);
            Due.due("at the expiry", x.put(15, 1, granted), LeasedConfig.NO_LEASE);
        }
    }

    // Promise 2: "history has 60 events or more: FULL; nothing changes then."
    private static void putRefusesAtSixtyEvents() {
        Scene[] full = {Scene.withEvents(60), Scene.EVENTS_61, Scene.EVENTS_76};
        for (Scene scene : full) {
            for (int key : new int[] {0, 1, 8, 15}) {
                putRefusesAsFull(scene, key, -1);
                for (int lease : scene.granted()) {
                    putRefusesAsFull(scene, key, lease);
                }
            }
        }
    }

    private static void putRefusesAsFull(Scene scene, int key, int lease) {
        for (int value : VALUES) {
            Unchanged.due(scene, "put(" + key + ", " + value + ", " + lease + ")", x -> x.put(key, value, lease),
                LeasedConfig.FULL);
        }
    }

    private static void putTakesTheSixtiethEvent() {
        for (int key : new int[] {0, 1, 8, 15}) {
            LeasedConfig x = Scene.withEvents(58).make();
            Due.due("put with 58 events", x.put(key, MAX, 0), 61);
            Due.due("put with 59 events", x.put(key, MIN, -1), 62);
            Due.due("60 events", x.events(0, 15, 3), 60);
            Due.due("put with 60 events", x.put(key, 0, -1), LeasedConfig.FULL);
            Due.due("the last value", x.get(key, 62), MIN);
            Due.due("compact to the oldest makes no room", x.compact(2), 60);
            Due.due("put with 60 events still", x.put(key, 0, -1), LeasedConfig.FULL);
            Due.due("compact by one revision", x.compact(3), 59);
            Due.due("put with 59 events again", x.put(key, 0, -1), 63);
        }
    }

    // Promise 3: "BAD_KEY", before NO_KEY and before FULL
    private static void deleteRefusesBadKeys() {
        for (Scene scene : Scene.ALL) {
            for (int key : BAD_KEYS) {
                Unchanged.due(scene, "delete(" + key + ")", x -> x.delete(key), LeasedConfig.BAD_KEY);
            }
        }
    }

    // Promise 3: "the key is absent: NO_KEY", before FULL
    private static void deleteRefusesAbsentKeys() {
        for (Scene scene : Scene.ALL) {
            for (int key : scene.absent()) {
                Unchanged.due(scene, "delete(" + key + ")", x -> x.delete(key), LeasedConfig.NO_KEY);
            }
        }
    }

    private static void deleteTakesEveryPresentKey() {
        for (int key = 0; key <= 15; key++) {
            LeasedConfig x = new LeasedConfig();
            x.grant(0, 1);
            for (int each = 0; each <= 15; each++) {
                x.put(each, 0, 0);
            }
            Due.due("delete(" + key + ")", x.delete(key), 17);
            for (int each = 0; each <= 15; each++) {
                Due.due("has(" + each + ", 17)", x.has(each, 17), each != key);
                Due.due("has(" + each + ", 16)", x.has(each, 16), true);
                Due.due("lease of " + each, x.attribute(4, each), each == key ? -1 : 0);
                Due.due("version of " + each, x.attribute(1, each), each == key ? 0 : 1);
                Due.due("mod of " + each, x.attribute(2, each), each == key ? 0 : each + 1);
                Due.due("create of " + each, x.attribute(3, each), each == key ? 0 : each + 1);
            }
            Due.due("one event", x.events(MIN, MAX, 17), 1);
            Due.due("delete(" + key + ") again", x.delete(key), LeasedConfig.NO_KEY);
            Due.due("put after delete", x.put(key, 1, -1), 18);
            Due.due("version begins anew", x.attribute(1, key), 1);
            Due.due("create is new", x.attribute(3, key), 18);
        }
    }

    // Promise 3: "history has 60 events or more: FULL; nothing changes then."
    private static void deleteRefusesAtSixtyEvents() {
        Scene[] full = {Scene.withEvents(60), Scene.EVENTS_61};
        for (Scene scene : full) {
            for (int key : scene.present()) {
                Unchanged.due(scene, "delete(" + key + ")", x -> x.delete(key), LeasedConfig.FULL);
            }
        }
    }

    private static void deleteTakesTheSixtiethEvent() {
        LeasedConfig x = Scene.withEvents(58).make();
        Due.due("delete with 58 events", x.delete(0), 61);
        Due.due("delete with 59 events", x.delete(15), 62);
        Due.due("60 events", x.events(0, 15, 3), 60);
        Due.due("delete with 60 events", x.delete(3), LeasedConfig.FULL);
        Due.due("delete of an absent key with 60 events", x.delete(15), LeasedConfig.NO_KEY);
        Due.due("compact by one revision", x.compact(3), 59);
        Due.due("delete with 59 events again", x.delete(3), 63);
    }
}
