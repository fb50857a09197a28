/** Promises 12 (compact), 13 (revision), 14 (get), 15 (has), 17 (events), and 18 for these calls. */
public final class HistoryTest {
    private static final int MIN = Integer.MIN_VALUE;
    private static final int MAX = Integer.MAX_VALUE;

    private HistoryTest() {
    }

    public static void main(String[] args) {
        valuesAsOfRevisions();
        compactKeepsTheOldest();
        compactRefusals();
        compactAgainAndAgain();
        getRefusals();
        valuesMayEqualAnswers();
        eventsByKeyAndRevision();
        eventsRefusals();
        readingChangesNothing();
        Due.finish();
    }

    /** Revisions: 1 puts 3, 2 puts 4, 3 puts 3, 4 deletes 3, 5 puts 3 and 5 and deletes 4. */
    private static LeasedConfig sample() {
        LeasedConfig x = new LeasedConfig();
        x.put(3, 30, -1);
        x.put(4, 40, -1);
        x.put(3, 31, -1);
        x.delete(3);
        x.thenPut(3, 32, false);
        x.thenPut(5, 50, false);
        x.thenDelete(4, false);
        x.commit();
        return x;
    }

    private static void asOf(String about, LeasedConfig x, int oldest) {
        int[][] want = {{0, 0, 0}, {30, 0, 0}, {30, 40, 0}, {31, 40, 0}, {0, 40, 0}, {32, 0, 50}};
        for (int revision = 0; revision < want.length; revision++) {
            for (int i = 0; i < 3; i++) {
                boolean kept = revision >= oldest;
                int value = want[revision][i];
                Due.due(about + ": get(" + (3 + i) + ", " + revision + ")",
                    x.get(3 + i, revision), kept ? value : LeasedConfig.BAD_REVISION);
                Due.due(about + ": has(" + (3 + i) + ", " + revision + ")",
                    x.has(3 + i, revision), kept && value != 0);
            }
        }
    }

    private static void valuesAsOfRevisions() {
        LeasedConfig x = sample();
        Due.due("revision()", x.revision(), 5);
        asOf("not compacted", x, 0);
    }

    private static void compactKeepsTheOldest() {
        int[] left = {7, 6, 5, 4, 3, 0};
        for (int revision = 0; revision <= 5; revision++) {
            LeasedConfig x = sample();
            Due.due("compact(" + revision + ")", x.compact(revision), left[revision]);
            Due.due("compact is no change", x.revision(), 5);
            asOf("compacted to " + revision, x, revision);
            Due.due("events left", x.events(0, 15, revision + 1), left[revision]);
            Due.due("attributes stay: value", x.attribute(0, 3), 32);
            Due.due("attributes stay: version", x.attribute(1, 3), 1);
            Due.due("attributes stay: mod", x.attribute(2, 3), 5);
            Due.due("attributes stay: create", x.attribute(3, 3), 5);
        }
    }

    private static void compactRefusals() {
        LeasedConfig x = sample();
        Due.due("compact(-1)", x.compact(-1), LeasedConfig.BAD_REVISION);
        Due.due("compact(6)", x.compact(6), LeasedConfig.BAD_REVISION);
        Due.due("compact(MIN)", x.compact(MIN), LeasedConfig.BAD_REVISION);
        Due.due("compact(MAX)", x.compact(MAX), LeasedConfig.BAD_REVISION);
        asOf("refused", x, 0);
        x.compact(3);
        Due.due("compact below the oldest", x.compact(2), LeasedConfig.BAD_REVISION);
        Due.due("compact to the oldest again", x.compact(3), 4);
        asOf("compacted twice", x, 3);
    }

    private static void compactAgainAndAgain() {
        LeasedConfig x = new LeasedConfig();
        for (int i = 1; i <= 150; i++) {
            Due.due("put number " + i, x.put(i % 16, i, -1), i);
            if (i % 20 == 0) {
                Due.due("compact to " + (i - 10), x.compact(i - 10), 10);
            }
        }
        for (int key = 0; key < 16; key++) {
            int last = 130 - Math.floorMod(130 - key, 16);
            Due.due("as of the oldest: get(" + key + ", 130)", x.get(key, 130), last);
        }
        Due.due("before the oldest", x.get(0, 129), LeasedConfig.BAD_REVISION);
        Due.due("versions go on", x.attribute(1, 1), 10);
        Due.due("create stays", x.attribute(3, 1), 1);
    }

    private static void getRefusals() {
        LeasedConfig x = sample();
        x.compact(2);
        int[] badKeys = {-1, 16, MIN, MAX};
        for (int key : badKeys) {
            Due.due("get(" + key + ", 3)", x.get(key, 3), LeasedConfig.BAD_KEY);
            Due.due("get(" + key + ", 9)", x.get(key, 9), LeasedConfig.BAD_KEY);
            Due.due("has(" + key + ", 3)", x.has(key, 3), false);
        }
        int[] badRevisions = {1, 6, -1, MIN, MAX};
        for (int revision : badRevisions) {
            Due.due("get(4, " + revision + ")", x.get(4, revision), LeasedConfig.BAD_REVISION);
            Due.due("has(4, " + revision + ")", x.has(4, revision), false);
        }
    }

    private static void valuesMayEqualAnswers() {
        LeasedConfig x = new LeasedConfig();
        x.put(0, LeasedConfig.BAD_REVISION, -1);
        x.put(15, MIN, -1);
        Due.due("get of a value of -7", x.get(0, 2), -7);
        Due.due("has of a value of -7", x.has(0, 2), true);
        Due.due("get of MIN", x.get(15, 2), MIN);
        x.compact(2);
        Due.due("get of MIN as of the oldest", x.get(15, 2), MIN);
        x.put(15, 0, -1);
        Due.due("get of 0", x.get(15, 3), 0);
        Due.due("has of 0", x.has(15, 3), true);
    }

    private static void eventsByKeyAndRevision() {
        LeasedConfig x = sample();
        Due.due("events(0, 15, 1)", x.events(0, 15, 1), 7);
        Due.due("events(MIN, MAX, 1)", x.events(MIN, MAX, 1), 7);
        Due.due("events(3, 3, 1)", x.events(3, 3, 1), 4);
        Due.due("events(4, 5, 1)", x.events(4, 5, 1), 3);
        Due.due("events(4, 15, 1)", x.events(4, 15, 1), 3);
        Due.due("events(0, 4, 1)", x.events(0, 4, 1), 6);
        Due.due("events(3, 3, 3)", x.events(3, 3, 3), 3);
        Due.due("events(3, 3, 4)", x.events(3, 3, 4), 2);
        Due.due("events(0, 15, 5)", x.events(0, 15, 5), 3);
        Due.due("events(0, 15, 6)", x.events(0, 15, 6), 0);
        Due.due("events(5, 4, 1), no key between", x.events(5, 4, 1), 0);
        Due.due("events(MAX, MIN, 1)", x.events(MAX, MIN, 1), 0);
        Due.due("events(16, MAX, 1)", x.events(16, MAX, 1), 0);
        Due.due("events(MIN, -1, 1)", x.events(MIN, -1, 1), 0);
    }

    private static void eventsRefusals() {
        LeasedConfig x = sample();
        int[] bad = {0, 7, -1, MIN, MAX};
        for (int from : bad) {
            Due.due("events(0, 15, " + from + ")", x.events(0, 15, from), LeasedConfig.BAD_REVISION);
            Due.due("events(1, 0, " + from + ")", x.events(1, 0, from), LeasedConfig.BAD_REVISION);
        }
        x.compact(3);
        Due.due("from the oldest", x.events(0, 15, 3), LeasedConfig.BAD_REVISION);
        Due.due("from above the oldest", x.events(0, 15, 4), 4);
        x.compact(5);
        Due.due("from the oldest, which is the newest", x.events(0, 15, 5), LeasedConfig.BAD_REVISION);
        Due.due("from above the newest", x.events(0, 15, 6), 0);
    }

    private static void readingChangesNothing() {
        LeasedConfig x = sample();
        x.when(0, 3, 0, 32);
        x.thenPut(9, 90, false);
        for (int i = 0; i < 20; i++) {
            x.revision();
            x.get(i, i);
            x.has(i, i);
            x.attribute(i, i);
            x.events(i, i, i);
        }
        Due.due("reading makes no revision", x.revision(), 5);
        asOf("after reading", x, 0);
        Due.due("reading keeps the conditions", x.when(0, 3, 0, 32), 2);
        Due.due("reading keeps the actions", x.commit(), 1);
        Due.due("and they are done", x.get(9, 6), 90);
    }
}
