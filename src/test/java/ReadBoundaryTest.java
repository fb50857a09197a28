/** Each sentence of promises 12 to 17 that names a boundary, on both sides of it. */
public final class ReadBoundaryTest {
    private static final int MIN = Integer.MIN_VALUE;
    private static final int MAX = Integer.MAX_VALUE;
    private static final int[] BAD_KEYS = {-1, 16, MIN, MAX};
    private static final int[] EDGE_KEYS = {0, 15};

    private ReadBoundaryTest() {
    }

    public static void main(String[] args) {
        compactRefusesBadRevisions();
        compactTakesTheOldestToTheNewest();
        compactAtARevisionOfSeveralEvents();
        revisionIsReadOnly();
        getAndHasRefuseBadKeys();
        getAndHasRefuseBadRevisions();
        getAndHasAreReadOnly();
        getAndHasAroundPutsAndDeletes();
        getOfAnyValue();
        attributeRefusesBadKeys();
        attributeRefusesBadKinds();
        attributeIsReadOnly();
        attributesOfAbsentKeys();
        attributesOfPresentKeys();
        eventsRefuseBadRevisions();
        eventsAreReadOnly();
        eventsOfAnyInts();
        eventsFromEveryRevision();
        Due.finish();
    }

    private static int[] badRevisions(Scene scene) {
        return new int[] {scene.oldest() - 1, scene.newest() + 1, MIN, MAX};
    }

    private static int[] edgeRevisions(Scene scene) {
        return new int[] {scene.oldest(), scene.newest()};
    }

    // Promise 12: "Not in oldest to R: BAD_REVISION, nothing changes."
    private static void compactRefusesBadRevisions() {
        for (Scene scene : Scene.ALL) {
            for (int revision : badRevisions(scene)) {
                Unchanged.due(scene, "compact(" + revision + ")", x -> x.compact(revision), LeasedConfig.BAD_REVISION);
            }
        }
    }

    private static void compactTakesTheOldestToTheNewest() {
        for (Scene scene : Scene.ALL) {
            Unchanged.due(scene, "compact to the oldest", x -> x.compact(scene.oldest()), scene.events());
            for (int revision = scene.oldest(); revision <= scene.newest(); revision++) {
                LeasedConfig x = scene.make();
                int left = x.events(MIN, MAX, revision + 1);
                String about = scene.name() + ": compact(" + revision + ")";
                Due.due(about, x.compact(revision), left);
                Due.due(about + ": below it", x.compact(revision - 1), LeasedConfig.BAD_REVISION);
                Due.due(about + ": again", x.compact(revision), left);
                Due.due(about + ": get below it", x.get(0, revision - 1), LeasedConfig.BAD_REVISION);
                Due.due(about + ": has below it", x.has(0, revision - 1), false);
                Due.due(about + ": events from it", x.events(0, 15, revision), LeasedConfig.BAD_REVISION);
                Due.due(about + ": events above it", x.events(MIN, MAX, revision + 1), left);
                Due.due(about + ": revision()", x.revision(), scene.newest());
                asBefore(about, scene, x, revision);
            }
        }
    }

    /** What can still be asked for is what it was before compact. */
    private static void asBefore(String about, Scene scene, LeasedConfig x, int revision) {
        LeasedConfig before = scene.make();
        for (int key = 0; key <= 15; key++) {
            Due.due(about + ": get as of the oldest, key " + key, x.get(key, revision), before.get(key, revision));
            Due.due(about + ": has as of the oldest, key " + key, x.has(key, revision), before.has(key, revision));
            Due.due(about + ": get now, key " + key, x.get(key, scene.newest()), before.get(key, scene.newest()));
            Due.due(about + ": has now, key " + key, x.has(key, scene.newest()), before.has(key, scene.newest()));
            for (int kind = 0; kind <= 4; kind++) {
                Due.due(about + ": attribute(" + kind + ", " + key + ")", x.attribute(kind, key),
                    before.attribute(kind, key));
            }
        }
    }

    // Promise 12 and "HISTORY is all events of revisions above the oldest": a revision goes as a whole.
    private static void compactAtARevisionOfSeveralEvents() {
        int[] left = {12, 8, 4, 0};
        for (int revision = 0; revision <= 3; revision++) {
            LeasedConfig x = new LeasedConfig();
            for (int change = 1; change <= 3; change++) {
                for (int key = 12; key <= 15; key++) {
                    x.thenPut(key, 10 * change + key, false);
                }
                x.commit();
            }
            Due.due("compact(" + revision + ")", x.compact(revision), left[revision]);
            for (int key = 12; key <= 15; key++) {
                int value = revision == 0 ? 0 : 10 * revision + key;
                Due.due("as of the oldest, key " + key, x.get(key, revision), value);
                Due.due("events of key " + key, x.events(key, key, revision + 1), left[revision] / 4);
            }
        }
    }

    // Promise 13, and "The calls below change nothing."
    private static void revisionIsReadOnly() {
        for (Scene scene : Scene.ALL) {
            Unchanged.due(scene, "revision()", x -> x.revision(), scene.newest());
        }
    }

    private static void getAndHas(Scene scene, int key, int revision, int wantGet, boolean wantHas) {
        Unchanged.due(scene, "get(" + key + ", " + revision + ")", x -> x.get(key, revision), wantGet);
        Unchanged.due(scene, "has(" + key + ", " + revision + ")", x -> x.has(key, revision) ? 1 : 0, wantHas ? 1 : 0);
    }

    // Promise 14: "BAD_KEY", before BAD_REVISION; promise 15: "false also for a bad key or revision."
    private static void getAndHasRefuseBadKeys() {
        for (Scene scene : Scene.ALL) {
            for (int key : BAD_KEYS) {
                for (int revision : edgeRevisions(scene)) {
                    getAndHas(scene, key, revision, LeasedConfig.BAD_KEY, false);
                }
                for (int revision : badRevisions(scene)) {
                    getAndHas(scene, key, revision, LeasedConfig.BAD_KEY, false);
                }
            }
        }
    }

    // Promise 14: "not in oldest to R: BAD_REVISION."; promise 15: "false also for a bad key or revision."
    private static void getAndHasRefuseBadRevisions() {
        for (Scene scene : Scene.ALL) {
            for (int key : EDGE_KEYS) {
                for (int revision : badRevisions(scene)) {
                    getAndHas(scene, key, revision, LeasedConfig.BAD_REVISION, false);
                }
            }
        }
    }

    private static void getAndHasAreReadOnly() {
        getAndHas(Scene.NEW, 0, 0, 0, false);
        getAndHas(Scene.NEW, 15, 0, 0, false);
        getAndHas(Scene.MIXED, 0, 2, 5, true);
        getAndHas(Scene.MIXED, 15, 6, -9, true);
        getAndHas(Scene.MIXED, 3, 2, 0, false);
        getAndHas(Scene.MIXED, 3, 3, 30, true);
        getAndHas(Scene.MIXED, 3, 4, 31, true);
        getAndHas(Scene.EVENTS_76, 15, 60, 47, true);
        getAndHas(Scene.EVENTS_76, 15, 61, 0, false);
    }

    // Promise 14: "as of a revision (after that revision's events); 0 if it was absent."
    private static void getAndHasAroundPutsAndDeletes() {
        for (int key = 0; key <= 15; key++) {
            for (int oldest = 0; oldest <= 6; oldest++) {
                LeasedConfig x = new LeasedConfig();
                int other = (key + 1) % 16;
                x.put(other, 1, -1);
                x.put(key, 22, -1);
                x.put(other, 3, -1);
                x.delete(key);
                x.put(other, 5, -1);
                x.put(key, 66, -1);
                x.compact(oldest);
                int[] values = {0, 0, 22, 22, 0, 0, 66};
                for (int revision = -1; revision <= 7; revision++) {
                    boolean kept = revision >= oldest && revision <= 6;
                    String about = "oldest " + oldest + ", key " + key + " as of " + revision;
                    Due.due(about + ": get", x.get(key, revision),
                        kept ? values[revision] : LeasedConfig.BAD_REVISION);
                    Due.due(about + ": has", x.has(key, revision), kept && values[revision] != 0);
                }
            }
        }
    }

    // Promise 14: "(Values may equal these.)" They may be any int, and 0 is no absent key's 0 to has.
    private static void getOfAnyValue() {
        int[] values = {MIN, -8, -7, -1, 0, 1, MAX};
        LeasedConfig x = new LeasedConfig();
        for (int value : values) {
            x.put(15, value, -1);
        }
        for (int oldest = 0; oldest <= values.length; oldest++) {
            x.compact(oldest);
            for (int i = 0; i < values.length; i++) {
                boolean kept = i + 1 >= oldest;
                Due.due("get(15, " + (i + 1) + ")", x.get(15, i + 1), kept ? values[i] : LeasedConfig.BAD_REVISION);
                Due.due("has(15, " + (i + 1) + ")", x.has(15, i + 1), kept);
            }
        }
    }

    private static void attribute(Scene scene, int kind, int key, int want) {
        Unchanged.due(scene, "attribute(" + kind + ", " + key + ")", x -> x.attribute(kind, key), want);
    }

    // Promise 16: "BAD_KEY", before BAD_KIND
    private static void attributeRefusesBadKeys() {
        for (Scene scene : Scene.ALL) {
            for (int key : BAD_KEYS) {
                for (int kind : new int[] {-1, 0, 4, 5, MIN, MAX}) {
                    attribute(scene, kind, key, LeasedConfig.BAD_KEY);
                }
            }
        }
    }

    // Promise 16: "kind not in 0 to 4: BAD_KIND."
    private static void attributeRefusesBadKinds() {
        for (Scene scene : Scene.ALL) {
            for (int key : EDGE_KEYS) {
                for (int kind : new int[] {-1, 5, MIN, MAX}) {
                    attribute(scene, kind, key, LeasedConfig.BAD_KIND);
                }
            }
        }
    }

    private static void attributeIsReadOnly() {
        int[] ofKey3 = {31, 2, 4, 3, 0};
        int[] ofAbsent = {0, 0, 0, 0, -1};
        for (int kind = 0; kind <= 4; kind++) {
            attribute(Scene.MIXED, kind, 3, ofKey3[kind]);
            attribute(Scene.MIXED, kind, 7, ofAbsent[kind]);
            attribute(Scene.EVENTS_76, kind, 15, ofAbsent[kind]);
        }
    }

    // Promise 16: "for an absent key 0, and -1 for kind 4", whichever way it became absent
    private static void attributesOfAbsentKeys() {
        LeasedConfig x = new LeasedConfig();
        x.grant(0, 5);
        x.grant(1, 5);
        x.put(0, 9, 0);
        x.put(1, 9, 0);
        x.put(14, 9, 1);
        x.put(15, 9, 1);
        x.delete(0);
        x.thenDelete(1, false);
        x.commit();
        x.revoke(1);
        for (int key = 0; key <= 15; key++) {
            for (int kind = 0; kind <= 3; kind++) {
                Due.due("absent: attribute(" + kind + ", " + key + ")", x.attribute(kind, key), 0);
            }
            Due.due("absent: attribute(4, " + key + ")", x.attribute(4, key), -1);
        }
    }

    // Promise 16: "4 for its lease, -1 without lease"
    private static void attributesOfPresentKeys() {
        LeasedConfig x = new LeasedConfig();
        for (int lease = 0; lease <= 3; lease++) {
            x.grant(lease, 50);
        }
        for (int key = 0; key <= 15; key++) {
            x.put(key, MIN + key, key % 4);
            x.put(key, MAX - key, key % 5 - 1);
        }
        for (int key = 0; key <= 15; key++) {
            int[] want = {MAX - key, 2, 2 * key + 2, 2 * key + 1, key % 5 - 1};
            for (int kind = 0; kind <= 4; kind++) {
                Due.due("attribute(" + kind + ", " + key + ")", x.attribute(kind, key), want[kind]);
            }
        }
    }

    private static void events(Scene scene, int lo, int hi, int from, int want) {
        Unchanged.due(scene, "events(" + lo + ", " + hi + ", " + from + ")", x -> x.events(lo, hi, from), want);
    }

    // Promise 17: "from not in oldest + 1 to R + 1: BAD_REVISION." lo and hi may be any ints even then.
    private static void eventsRefuseBadRevisions() {
        for (Scene scene : Scene.ALL) {
            for (int from : new int[] {scene.oldest(), scene.oldest() - 1, scene.newest() + 2, MIN, MAX}) {
                events(scene, 0, 15, from, LeasedConfig.BAD_REVISION);
                events(scene, MIN, MAX, from, LeasedConfig.BAD_REVISION);
                events(scene, MAX, MIN, from, LeasedConfig.BAD_REVISION);
                events(scene, -1, 16, from, LeasedConfig.BAD_REVISION);
            }
        }
    }

    private static void eventsAreReadOnly() {
        for (Scene scene : Scene.ALL) {
            events(scene, MIN, MAX, scene.oldest() + 1, scene.events());
            events(scene, 0, 15, scene.oldest() + 1, scene.events());
            events(scene, MIN, MAX, scene.newest() + 1, 0);
            events(scene, MAX, MIN, scene.oldest() + 1, 0);
        }
    }

    // Promise 17: "(both counted in, any ints)"
    private static void eventsOfAnyInts() {
        LeasedConfig x = new LeasedConfig();
        for (int key = 0; key <= 15; key++) {
            x.put(key, 1, -1);
        }
        int[] ends = {MIN, MIN + 1, -2, -1, 0, 1, 7, 8, 14, 15, 16, 17, MAX - 1, MAX};
        for (int lo : ends) {
            for (int hi : ends) {
                int want = Math.max(0, Math.min(hi, 15) - Math.max(lo, 0) + 1);
                Due.due("events(" + lo + ", " + hi + ", 1)", x.events(lo, hi, 1), hi < 0 || lo > 15 ? 0 : want);
            }
        }
    }

    // Promise 17: "a revision of at least from", for every oldest revision
    private static void eventsFromEveryRevision() {
        for (int oldest = 0; oldest <= 20; oldest++) {
            LeasedConfig x = new LeasedConfig();
            for (int i = 0; i < 20; i++) {
                x.put(i % 2 == 0 ? 0 : 15, i, -1);
            }
            x.compact(oldest);
            for (int from = -1; from <= 23; from++) {
                boolean good = from >= oldest + 1 && from <= 21;
                Due.due("oldest " + oldest + ": events of both from " + from, x.events(0, 15, from),
                    good ? 21 - from : LeasedConfig.BAD_REVISION);
                Due.due("oldest " + oldest + ": events of 15 from " + from, x.events(15, 15, from),
                    good ? (22 - from) / 2 : LeasedConfig.BAD_REVISION);
                Due.due("oldest " + oldest + ": events of 0 from " + from, x.events(0, 0, from),
                    good ? (21 - from) / 2 : LeasedConfig.BAD_REVISION);
            }
        }
    }
}
