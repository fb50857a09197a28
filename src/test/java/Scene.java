import java.util.function.Consumer;

/** A state that a call is tried in, and what the document says about that state. */
record Scene(String name, Consumer<LeasedConfig> calls, int oldest, int newest, int events, int[] granted, int[] free,
        int[] present, int[] absent) {

    static final int[] NO_NUMBERS = {};
    static final int[] ALL_KEYS = {0, 1, 2, 3, 4, 5, 6, 7, 8, 9, 10, 11, 12, 13, 14, 15};

    static final Scene NEW = new Scene("new", x -> { }, 0, 0, 0,
        NO_NUMBERS, new int[] {0, 1, 2, 3}, NO_NUMBERS, ALL_KEYS);

    static final Scene MIXED = new Scene("mixed", Scene::mix, 2, 6, 4,
        new int[] {0, 2}, new int[] {1, 3}, new int[] {0, 3, 15}, new int[] {1, 7, 14});

    static final Scene FULL_TRANSACTION = transaction("full transaction", x -> {
        fillConditions(x);
        fillList(x);
        fillOtherList(x);
    });

    static final Scene FULL_LIST = transaction("full list", Scene::fillList);

    static final Scene FULL_OTHER_LIST = transaction("full other list", Scene::fillOtherList);

    /** The end of a lease is not refused when history is full, so it can have more than 60 events. */
    static final Scene EVENTS_61 = new Scene("61 events", Scene::makeHistoryOf61, 2, 63, 61,
        new int[] {0}, new int[] {1, 2, 3}, new int[] {0, 3, 8}, new int[] {1, 7, 14, 15});

    static final Scene EVENTS_76 = new Scene("76 events", Scene::makeHistoryOf76, 0, 61, 76,
        new int[] {3}, new int[] {0, 1, 2}, NO_NUMBERS, ALL_KEYS);

    static final Scene[] ALL = {
        NEW, MIXED, FULL_TRANSACTION, FULL_LIST, FULL_OTHER_LIST, withEvents(56), withEvents(57), withEvents(60),
        EVENTS_61, EVENTS_76,
    };

    /** As mixed, with as many events as are asked for, 5 to 60. */
    static Scene withEvents(int events) {
        return new Scene(events + " events", x -> makeHistory(x, events), 2, events + 2, events,
            MIXED.granted, MIXED.free, new int[] {0, 3, 8, 15}, MIXED.absent);
    }

    private static Scene transaction(String name, Consumer<LeasedConfig> more) {
        return new Scene(name, x -> {
            mix(x);
            more.accept(x);
        }, 2, 6, 4, MIXED.granted, MIXED.free, MIXED.present, MIXED.absent);
    }

    LeasedConfig make() {
        LeasedConfig x = new LeasedConfig();
        calls.accept(x);
        return x;
    }

    private static void mix(LeasedConfig x) {
        x.grant(0, 10);
        x.grant(2, 50);
        x.put(15, -9, 2);
        x.put(0, 5, 0);
        x.put(3, 30, -1);
        x.put(3, 31, 0);
        x.put(7, 70, 2);
        x.delete(7);
        x.compact(2);
        x.pass(3);
        // Each condition would fail if it were of another kind or key.
        x.when(0, 3, 0, 31);
        x.when(1, 0, 0, 1);
        x.thenPut(1, 100, false);
        x.thenDelete(15, false);
        x.thenPut(2, 200, true);
        x.thenDelete(3, true);
    }

    private static void fillConditions(LeasedConfig x) {
        x.when(2, 3, 0, 4);
        x.when(3, 3, 0, 3);
    }

    private static void fillList(LeasedConfig x) {
        x.thenPut(4, 400, false);
        x.thenDelete(7, false);
    }

    private static void fillOtherList(LeasedConfig x) {
        x.thenPut(5, 500, true);
        x.thenPut(6, Integer.MIN_VALUE, true);
    }

    private static void makeHistory(LeasedConfig x, int events) {
        mix(x);
        for (int i = MIXED.events; i < events; i++) {
            x.put(8, i, -1);
        }
    }

    private static void makeHistoryOf61(LeasedConfig x) {
        makeHistory(x, 60);
        x.revoke(2);
    }

    private static void makeHistoryOf76(LeasedConfig x) {
        x.grant(1, 50);
        x.grant(3, 50);
        for (int i = 0; i < 60; i++) {
            x.put(i % 16, i, 1);
        }
        x.revoke(1);
    }
}
