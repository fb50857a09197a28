/** Each sentence of promises 4 to 7 that names a boundary, on both sides of it. */
public final class TransactionBoundaryTest {
    private static final int MIN = Integer.MIN_VALUE;
    private static final int MAX = Integer.MAX_VALUE;
    private static final int[] BAD_KEYS = {-1, 16, MIN, MAX};
    private static final int[] EDGE_KEYS = {0, 15};
    private static final int[] BAD_KINDS = {-1, 4, MIN, MAX};
    private static final int[] EDGE_KINDS = {0, 3};
    private static final int[] EDGE_NUMBERS = {MIN, MIN + 1, -1, 0, 1, MAX - 1, MAX};
    private static final boolean[] LISTS = {false, true};

    private TransactionBoundaryTest() {
    }

    public static void main(String[] args) {
        whenRefusesBadKeys();
        whenRefusesBadKinds();
        whenRefusesTheFifth();
        whenTakesFourOfAnyKind();
        absentKeysCompareAsZero();
        comparisonsAtTheEdges();
        actionsRefuseBadKeys();
        actionsRefuseNamedKeys();
        actionsRefuseTheFifth();
        actionsTakeFourOfAnyKey();
        noConditionsHold();
        oneFailingConditionIsEnough();
        commitWithoutEventsMakesNoRevision();
        commitCountsOnlyWhatChanges();
        commitForgetsEverything();
        commitRefusesAbove56Events();
        commitTakes56Events();
        Due.finish();
    }

    private static String whenText(int kind, int key, int cmp, int number) {
        return "when(" + kind + ", " + key + ", " + cmp + ", " + number + ")";
    }

    private static void whenIsRefused(Scene scene, int kind, int key, int cmp, int want) {
        Unchanged.due(scene, whenText(kind, key, cmp, 1), x -> x.when(kind, key, cmp, 1), want);
    }

    // Promise 4: "BAD_KEY", before the kind, before cmp and before FULL
    private static void whenRefusesBadKeys() {
        for (Scene scene : Scene.ALL) {
            for (int key : BAD_KEYS) {
                whenIsRefused(scene, 0, key, 0, LeasedConfig.BAD_KEY);
                whenIsRefused(scene, 3, key, 3, LeasedConfig.BAD_KEY);
                whenIsRefused(scene, 4, key, 0, LeasedConfig.BAD_KEY);
                whenIsRefused(scene, 0, key, -1, LeasedConfig.BAD_KEY);
                whenIsRefused(scene, MIN, key, MAX, LeasedConfig.BAD_KEY);
            }
        }
    }

    // Promise 4: "kind or cmp not in 0 to 3: BAD_KIND", before FULL
    private static void whenRefusesBadKinds() {
        for (Scene scene : Scene.ALL) {
            for (int key : EDGE_KEYS) {
                for (int bad : BAD_KINDS) {
                    for (int good : EDGE_KINDS) {
                        whenIsRefused(scene, bad, key, good, LeasedConfig.BAD_KIND);
                        whenIsRefused(scene, good, key, bad, LeasedConfig.BAD_KIND);
                    }
                    whenIsRefused(scene, bad, key, bad, LeasedConfig.BAD_KIND);
                }
            }
        }
    }

    // Promise 4: "there are four: FULL." A refused call changes nothing.
    private static void whenRefusesTheFifth() {
        for (int key : EDGE_KEYS) {
            for (int kind = 0; kind <= 3; kind++) {
                for (int cmp = 0; cmp <= 3; cmp++) {
                    whenIsRefused(Scene.FULL_TRANSACTION, kind, key, cmp, LeasedConfig.FULL);
                }
            }
        }
    }

    private static void whenTakesFourOfAnyKind() {
        for (int key = 0; key <= 15; key++) {
            for (int kind = 0; kind <= 3; kind++) {
                LeasedConfig x = new LeasedConfig();
                for (int cmp = 0; cmp <= 3; cmp++) {
                    Due.due(whenText(kind, key, cmp, MIN), x.when(kind, key, cmp, MIN), cmp + 1);
                }
                Due.due("the fifth", x.when(kind, key, 0, MIN), LeasedConfig.FULL);
                Due.due("the lists have room", x.thenPut(key, 1, false), 1);
                Due.due("and so has the other", x.thenPut(key, 1, true), 1);
                Due.due("commit", x.commit(), 0);
                Due.due("the first of the next", x.when(kind, key, 0, MIN), 1);
            }
        }
    }

    // Promise 4: "all 0 while the key is absent"
    private static void absentKeysCompareAsZero() {
        for (int kind = 0; kind <= 3; kind++) {
            for (int number : EDGE_NUMBERS) {
                LeasedConfig never = new LeasedConfig();
                compares(never, kind, 15, 0, number);
                LeasedConfig deleted = new LeasedConfig();
                deleted.put(15, 77, -1);
                deleted.put(15, 78, -1);
                deleted.delete(15);
                compares(deleted, kind, 15, 0, number);
                LeasedConfig revoked = new LeasedConfig();
                revoked.grant(3, 1);
                revoked.put(15, 77, 3);
                revoked.revoke(3);
                compares(revoked, kind, 15, 0, number);
            }
        }
    }

    // Promise 4: "cmp 0 equal, 1 not equal, 2 less, 3 greater", where a difference would wrap around
    private static void comparisonsAtTheEdges() {
        for (int value : EDGE_NUMBERS) {
            for (int number : EDGE_NUMBERS) {
                LeasedConfig x = new LeasedConfig();
                x.put(0, value, -1);
                compares(x, 0, 0, value, number);
            }
        }
        // Version 2, mod 4 and create 2, all different from the value.
        for (int off = -1; off <= 1; off++) {
            LeasedConfig x = new LeasedConfig();
            x.put(1, 1, -1);
            x.put(0, 9, -1);
            x.put(1, 1, -1);
            x.put(0, 9, -1);
            compares(x, 0, 0, 9, 9 + off);
            compares(x, 1, 0, 2, 2 + off);
            compares(x, 2, 0, 4, 4 + off);
            compares(x, 3, 0, 2, 2 + off);
        }
    }

    private static void compares(LeasedConfig x, int kind, int key, int attribute, int number) {
        boolean[] holds = {attribute == number, attribute != number, attribute < number, attribute > number};
        for (int cmp = 0; cmp <= 3; cmp++) {
            x.when(kind, key, cmp, number);
            Due.due("attribute is " + attribute + ", commit after " + whenText(kind, key, cmp, number), x.commit(),
                holds[cmp] ? 1 : 0);
        }
    }

    private static void actionIsRefused(Scene scene, int key, boolean otherwise, int want) {
        for (int value : new int[] {MIN, 0, MAX}) {
            Unchanged.due(scene, "thenPut(" + key + ", " + value + ", " + otherwise + ")",
                x -> x.thenPut(key, value, otherwise), want);
        }
        Unchanged.due(scene, "thenDelete(" + key + ", " + otherwise + ")", x -> x.thenDelete(key, otherwise), want);
    }

    // Promises 5 and 6: "BAD_KEY", before BAD_KIND and before FULL
    private static void actionsRefuseBadKeys() {
        for (Scene scene : Scene.ALL) {
            for (int key : BAD_KEYS) {
                actionIsRefused(scene, key, false, LeasedConfig.BAD_KEY);
                actionIsRefused(scene, key, true, LeasedConfig.BAD_KEY);
            }
        }
    }

    private static void actionsAreRefused(Scene scene, int[] keys, boolean otherwise, int want) {
        for (int key : keys) {
            actionIsRefused(scene, key, otherwise, want);
        }
    }

    // Promises 5 and 6: "the list names this key already: BAD_KIND", before FULL
    private static void actionsRefuseNamedKeys() {
        Scene[] scenes = {
            Scene.MIXED, Scene.FULL_TRANSACTION, Scene.FULL_LIST, Scene.FULL_OTHER_LIST, Scene.withEvents(60),
        };
        for (Scene scene : scenes) {
            actionsAreRefused(scene, new int[] {1, 15}, false, LeasedConfig.BAD_KIND);
            actionsAreRefused(scene, new int[] {2, 3}, true, LeasedConfig.BAD_KIND);
        }
        for (Scene scene : new Scene[] {Scene.FULL_TRANSACTION, Scene.FULL_LIST}) {
            actionsAreRefused(scene, new int[] {4, 7}, false, LeasedConfig.BAD_KIND);
        }
        for (Scene scene : new Scene[] {Scene.FULL_TRANSACTION, Scene.FULL_OTHER_LIST}) {
            actionsAreRefused(scene, new int[] {5, 6}, true, LeasedConfig.BAD_KIND);
        }
    }

    // Promises 5 and 6: "it has four actions: FULL." Keys that only the other list names are no BAD_KIND.
    private static void actionsRefuseTheFifth() {
        for (Scene scene : new Scene[] {Scene.FULL_TRANSACTION, Scene.FULL_LIST}) {
            actionsAreRefused(scene, new int[] {0, 2, 3, 5, 6, 14}, false, LeasedConfig.FULL);
        }
        for (Scene scene : new Scene[] {Scene.FULL_TRANSACTION, Scene.FULL_OTHER_LIST}) {
            actionsAreRefused(scene, new int[] {0, 1, 4, 7, 15}, true, LeasedConfig.FULL);
        }
    }

    private static void actionsTakeFourOfAnyKey() {
        for (int first = 0; first <= 15; first++) {
            LeasedConfig x = new LeasedConfig();
            for (boolean otherwise : LISTS) {
                for (int i = 0; i < 4; i++) {
                    int key = (first + i) % 16;
                    int got = i % 2 == 0 ? x.thenPut(key, MAX, otherwise) : x.thenDelete(key, otherwise);
                    Due.due("action " + (i + 1) + " of list " + otherwise, got, i + 1);
                    Due.due("the same key as a put", x.thenPut(key, MIN, otherwise), LeasedConfig.BAD_KIND);
                    Due.due("the same key as a delete", x.thenDelete(key, otherwise), LeasedConfig.BAD_KIND);
                }
                int next = (first + 4) % 16;
                Due.due("a fifth put", x.thenPut(next, 1, otherwise), LeasedConfig.FULL);
                Due.due("a fifth delete", x.thenDelete(next, otherwise), LeasedConfig.FULL);
            }
            Due.due("conditions have room", x.when(0, 0, 0, 0), 1);
            Due.due("commit", x.commit(), 1);
            Due.due("two puts", x.events(MIN, MAX, 1), 2);
            Due.due("the first value", x.get(first, 1), MAX);
        }
    }

    // Promise 7: "(none: they hold)"
    private static void noConditionsHold() {
        LeasedConfig x = new LeasedConfig();
        Due.due("nothing at all", x.commit(), 1);
        x.thenPut(0, MIN, false);
        x.thenPut(15, MAX, true);
        Due.due("only lists", x.commit(), 1);
        Due.due("the one list", x.get(0, 1), MIN);
        Due.due("not the other", x.has(15, 1), false);
        x.thenPut(15, MAX, true);
        Due.due("only the other list", x.commit(), 1);
        Due.due("no revision of it", x.revision(), 1);
    }

    private static void oneFailingConditionIsEnough() {
        for (int conditions = 1; conditions <= 4; conditions++) {
            for (int failing = -1; failing < conditions; failing++) {
                LeasedConfig x = new LeasedConfig();
                for (int i = 0; i < conditions; i++) {
                    x.when(0, i, i == failing ? 1 : 0, 0);
                }
                x.thenPut(8, 1, false);
                x.thenPut(8, 2, true);
                boolean held = failing == -1;
                Due.due(conditions + " conditions, failing is " + failing, x.commit(), held ? 1 : 0);
                Due.due("its list is done", x.get(8, 1), held ? 1 : 2);
            }
        }
    }

    // Promise 7: "(none of them: no new revision)"
    private static void commitWithoutEventsMakesNoRevision() {
        for (boolean otherwise : LISTS) {
            for (int deletes = 0; deletes <= 4; deletes++) {
                LeasedConfig x = Scene.withEvents(56).make();
                x.commit();
                x.compact(x.revision());
                int revision = x.revision();
                x.when(1, 14, otherwise ? 1 : 0, 0);
                for (int i = 0; i < deletes; i++) {
                    x.thenDelete(11 + i, otherwise);
                }
                x.thenPut(0, 1, !otherwise);
                Due.due("commit of " + deletes + " deletes of absent keys", x.commit(), otherwise ? 0 : 1);
                Due.due("no new revision", x.revision(), revision);
                Due.due("no event", x.events(MIN, MAX, revision + 1), 0);
                Due.due("forgotten all the same", x.when(0, 0, 0, 0), 1);
                Due.due("the list too", x.thenDelete(11, otherwise), 1);
            }
        }
    }

    // Promise 7: "its puts and its deletes of present keys are one change"
    private static void commitCountsOnlyWhatChanges() {
        for (boolean otherwise : LISTS) {
            for (int present = 0; present <= 4; present++) {
                LeasedConfig x = new LeasedConfig();
                for (int key = 0; key < present; key++) {
                    x.put(key, 5, -1);
                }
                x.when(0, 15, otherwise ? 1 : 0, 0);
                for (int key = 0; key < 4; key++) {
                    x.thenDelete(key, otherwise);
                }
                Due.due("commit of four deletes", x.commit(), otherwise ? 0 : 1);
                Due.due("one revision or none", x.revision(), present == 0 ? 0 : present + 1);
                Due.due("events of the present keys", x.events(MIN, MAX, 1), 2 * present);
                for (int key = 0; key < 4; key++) {
                    Due.due("key " + key + " is absent", x.has(key, x.revision()), false);
                }
            }
        }
    }

    // Promise 7: "What was put together is forgotten."
    private static void commitForgetsEverything() {
        for (int held = 0; held <= 1; held++) {
            LeasedConfig x = Scene.FULL_TRANSACTION.make();
            if (held == 0) {
                x.put(3, 32, -1);
            }
            Due.due("commit of a full transaction", x.commit(), held);
            int revision = x.revision();
            Due.due("commit again", x.commit(), 1);
            Due.due("nothing is left of it", x.revision(), revision);
            for (int i = 1; i <= 4; i++) {
                Due.due("condition " + i, x.when(0, 0, 0, 0), i);
            }
            for (boolean otherwise : LISTS) {
                for (int key = 1; key <= 4; key++) {
                    Due.due("action " + key, x.thenPut(key, 0, otherwise), key);
                }
                for (int key = 5; key <= 15; key++) {
                    Due.due("key " + key + " is not named", x.thenPut(key, 0, otherwise), LeasedConfig.FULL);
                }
            }
        }
    }

    // Promise 7: "History has more than 56 events: FULL, nothing changes."
    private static void commitRefusesAbove56Events() {
        Scene[] full = {
            Scene.withEvents(57), Scene.withEvents(58), Scene.withEvents(59), Scene.withEvents(60),
            Scene.EVENTS_61, Scene.EVENTS_76,
        };
        for (Scene scene : full) {
            Unchanged.due(scene, "commit()", x -> x.commit(), LeasedConfig.FULL);
        }
    }

    private static void commitTakes56Events() {
        for (int events = 55; events <= 56; events++) {
            for (int actions = 0; actions <= 4; actions++) {
                LeasedConfig x = historyOf(events);
                for (int key = 0; key < actions; key++) {
                    x.thenPut(key, MAX, false);
                }
                Due.due("commit with " + events + " events", x.commit(), 1);
                Due.due("events afterwards", x.events(MIN, MAX, 1), events + actions);
                Due.due("revision()", x.revision(), actions == 0 ? events : events + 1);
                Due.due("commit again", x.commit(), events + actions > 56 ? LeasedConfig.FULL : 1);
            }
        }
        LeasedConfig x = historyOf(57);
        x.when(0, 9, 0, 56);
        x.thenPut(0, 1, false);
        Due.due("commit with 57 events", x.commit(), LeasedConfig.FULL);
        Due.due("compact by one revision", x.compact(1), 56);
        Due.due("commit with 56 events, by then", x.commit(), 1);
        Due.due("what was put together is done", x.get(0, 58), 1);
    }

    private static LeasedConfig historyOf(int events) {
        LeasedConfig x = new LeasedConfig();
        for (int i = 0; i < events; i++) {
            x.put(9, i, -1);
        }
        return x;
    }
}
