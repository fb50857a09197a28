/** Promises 4 (when), 5 (thenPut), 6 (thenDelete), 7 (commit), and 18 for these calls. */
public final class TransactionTest {
    private static final int MIN = Integer.MIN_VALUE;
    private static final int MAX = Integer.MAX_VALUE;

    private TransactionTest() {
    }

    public static void main(String[] args) {
        whenCountsAndRefuses();
        everyKindAndComparison();
        comparisonsAtTheEdgesOfInt();
        actionsCountAndRefuse();
        listsAreApart();
        commitIsOneChange();
        commitWithoutEffect();
        commitForgets();
        allConditionsMustHold();
        conditionsAreLookedAtInCommit();
        commitPutsWithoutLease();
        commitWhenFull();
        refusedCallsAddNothing();
        Due.finish();
    }

    private static void whenCountsAndRefuses() {
        LeasedConfig x = new LeasedConfig();
        int[] badKeys = {-1, 16, MIN, MAX};
        for (int key : badKeys) {
            Due.due("when(0, " + key + ", 0, 0)", x.when(0, key, 0, 0), LeasedConfig.BAD_KEY);
            Due.due("when(4, " + key + ", 4, 0)", x.when(4, key, 4, 0), LeasedConfig.BAD_KEY);
        }
        int[] badKinds = {-1, 4, MIN, MAX};
        for (int kind : badKinds) {
            Due.due("when(" + kind + ", 0, 0, 0)", x.when(kind, 0, 0, 0), LeasedConfig.BAD_KIND);
            Due.due("when(0, 0, " + kind + ", 0)", x.when(0, 0, kind, 0), LeasedConfig.BAD_KIND);
        }
        Due.due("first when", x.when(0, 0, 0, 0), 1);
        Due.due("second when", x.when(3, 15, 3, -1), 2);
        Due.due("third when, the same again", x.when(0, 0, 0, 0), 3);
        Due.due("fourth when", x.when(1, 1, 1, 1), 4);
        Due.due("fifth when", x.when(1, 1, 1, 1), LeasedConfig.FULL);
        Due.due("four: BAD_KEY comes first", x.when(4, 16, 0, 0), LeasedConfig.BAD_KEY);
        Due.due("four: kind comes before FULL", x.when(4, 0, 0, 0), LeasedConfig.BAD_KIND);
        Due.due("four: cmp comes before FULL", x.when(0, 0, 4, 0), LeasedConfig.BAD_KIND);
        Due.due("the four hold", x.commit(), 1);
    }

    private static void everyKindAndComparison() {
        // Key 1 then has value 50, version 3, mod 7 and create 2; key 5 is absent.
        int[] ofKey1 = {50, 3, 7, 2};
        for (int kind = 0; kind <= 3; kind++) {
            for (int cmp = 0; cmp <= 3; cmp++) {
                for (int off = -1; off <= 1; off++) {
                    compareOnce(kind, 1, cmp, ofKey1[kind], ofKey1[kind] + off);
                    compareOnce(kind, 5, cmp, 0, off);
                }
            }
        }
    }

    private static void compareOnce(int kind, int key, int cmp, int attribute, int number) {
        LeasedConfig x = new LeasedConfig();
        x.put(5, 9, -1);
        x.put(1, 30, -1);
        x.put(1, 40, -1);
        x.put(2, 1, -1);
        x.put(2, 2, -1);
        x.delete(5);
        x.put(1, 50, -1);
        x.when(kind, key, cmp, number);
        boolean[] holds = {attribute == number, attribute != number, attribute < number, attribute > number};
        Due.due("commit after when(" + kind + ", " + key + ", " + cmp + ", " + number + ")",
            x.commit(), holds[cmp] ? 1 : 0);
    }

    private static void comparisonsAtTheEdgesOfInt() {
        LeasedConfig x = new LeasedConfig();
        x.put(0, MIN, -1);
        x.when(0, 0, 2, MAX);
        Due.due("MIN is less than MAX", x.commit(), 1);
        x.when(0, 0, 3, MAX);
        Due.due("MIN is not greater than MAX", x.commit(), 0);
        x.put(0, MAX, -1);
        x.when(0, 0, 3, MIN);
        Due.due("MAX is greater than MIN", x.commit(), 1);
        x.when(0, 0, 2, MIN);
        Due.due("MAX is not less than MIN", x.commit(), 0);
    }

    private static void actionsCountAndRefuse() {
        for (int other = 0; other <= 1; other++) {
            boolean otherwise = other == 1;
            LeasedConfig x = new LeasedConfig();
            int[] badKeys = {-1, 16, MIN, MAX};
            for (int key : badKeys) {
                Due.due("thenPut(" + key + ")", x.thenPut(key, 1, otherwise), LeasedConfig.BAD_KEY);
                Due.due("thenDelete(" + key + ")", x.thenDelete(key, otherwise), LeasedConfig.BAD_KEY);
            }
            Due.due("first action", x.thenPut(0, 1, otherwise), 1);
            Due.due("put of a put key", x.thenPut(0, 2, otherwise), LeasedConfig.BAD_KIND);
            Due.due("delete of a put key", x.thenDelete(0, otherwise), LeasedConfig.BAD_KIND);
            Due.due("second action", x.thenDelete(15, otherwise), 2);
            Due.due("put of a deleted key", x.thenPut(15, 2, otherwise), LeasedConfig.BAD_KIND);
            Due.due("delete of a deleted key", x.thenDelete(15, otherwise), LeasedConfig.BAD_KIND);
            Due.due("third action", x.thenDelete(7, otherwise), 3);
            Due.due("fourth action", x.thenPut(8, 3, otherwise), 4);
            Due.due("fifth action, a put", x.thenPut(9, 3, otherwise), LeasedConfig.FULL);
            Due.due("fifth action, a delete", x.thenDelete(9, otherwise), LeasedConfig.FULL);
            Due.due("full: put's BAD_KEY comes first", x.thenPut(16, 3, otherwise), LeasedConfig.BAD_KEY);
            Due.due("full: delete's BAD_KEY comes first", x.thenDelete(16, otherwise), LeasedConfig.BAD_KEY);
            Due.due("full: put's BAD_KIND before FULL", x.thenPut(8, 3, otherwise), LeasedConfig.BAD_KIND);
            Due.due("full: delete's BAD_KIND before FULL", x.thenDelete(8, otherwise), LeasedConfig.BAD_KIND);
            Due.due("nothing is done before commit", x.revision(), 0);
        }
    }

    private static void listsAreApart() {
        LeasedConfig x = new LeasedConfig();
        for (int key = 0; key < 4; key++) {
            Due.due("action of the one list", x.thenPut(key, 10 + key, false), key + 1);
            Due.due("action of the other list", x.thenPut(key, 20 + key, true), key + 1);
        }
        x.when(0, 0, 0, 1);
        Due.due("commit, not held", x.commit(), 0);
        for (int key = 0; key < 4; key++) {
            Due.due("the other list's value", x.attribute(0, key), 20 + key);
        }
        x.thenPut(5, 1, false);
        x.thenPut(6, 1, true);
        Due.due("commit, held", x.commit(), 1);
        Due.due("the one list is done", x.has(5, 2), true);
        Due.due("the other list is not done", x.has(6, 2), false);
    }

    private static void commitIsOneChange() {
        LeasedConfig x = new LeasedConfig();
        x.put(1, 5, -1);
        x.put(2, 6, -1);
        x.thenPut(3, 33, false);
        x.thenDelete(1, false);
        x.thenDelete(4, false);
        x.thenPut(2, 22, false);
        Due.due("commit()", x.commit(), 1);
        Due.due("one revision", x.revision(), 3);
        Due.due("three events, none for the absent key", x.events(0, 15, 3), 3);
        Due.due("no event for key 4", x.events(4, 4, 1), 0);
        Due.due("key 1 is deleted", x.has(1, 3), false);
        Due.due("key 1 was there", x.get(1, 2), 5);
        Due.due("key 2 value", x.attribute(0, 2), 22);
        Due.due("key 2 version", x.attribute(1, 2), 2);
        Due.due("key 2 mod", x.attribute(2, 2), 3);
        Due.due("key 2 create", x.attribute(3, 2), 2);
        Due.due("key 3 value", x.attribute(0, 3), 33);
        Due.due("key 3 version", x.attribute(1, 3), 1);
        Due.due("key 3 mod", x.attribute(2, 3), 3);
        Due.due("key 3 create", x.attribute(3, 3), 3);
        x.thenDelete(2, true);
        x.when(1, 2, 3, 2);
        Due.due("commit of a delete alone", x.commit(), 0);
        Due.due("delete alone is a change", x.revision(), 4);
        Due.due("key 2 is deleted", x.has(2, 4), false);
    }

    private static void commitWithoutEffect() {
        LeasedConfig x = new LeasedConfig();
        Due.due("commit of nothing", x.commit(), 1);
        Due.due("no new revision", x.revision(), 0);
        x.thenDelete(3, false);
        x.thenDelete(4, false);
        Due.due("commit of deletes of absent keys", x.commit(), 1);
        Due.due("no new revision again", x.revision(), 0);
        Due.due("no events", x.events(0, 15, 1), 0);
        x.when(0, 0, 1, 0);
        x.thenPut(3, 1, false);
        Due.due("commit of the empty list", x.commit(), 0);
        Due.due("still no new revision", x.revision(), 0);
    }

    private static void commitForgets() {
        LeasedConfig x = new LeasedConfig();
        x.when(0, 0, 1, 0);
        x.thenPut(1, 1, false);
        x.thenPut(2, 2, true);
        Due.due("first commit", x.commit(), 0);
        Due.due("second commit has no conditions", x.commit(), 1);
        Due.due("the one list is forgotten", x.has(1, x.revision()), false);
        Due.due("second commit makes no revision", x.revision(), 1);
        Due.due("conditions are counted anew", x.when(0, 0, 0, 0), 1);
        Due.due("the one list is counted anew", x.thenDelete(1, false), 1);
        Due.due("the other list is counted anew", x.thenDelete(2, true), 1);
    }

    private static void allConditionsMustHold() {
        for (int wrong = 0; wrong < 4; wrong++) {
            LeasedConfig x = new LeasedConfig();
            for (int i = 0; i < 4; i++) {
                x.when(i, i, 0, i == wrong ? 1 : 0);
            }
            Due.due("condition " + wrong + " does not hold", x.commit(), 0);
        }
    }

    private static void conditionsAreLookedAtInCommit() {
        LeasedConfig x = new LeasedConfig();
        x.when(0, 3, 0, 9);
        x.thenPut(3, 10, false);
        x.put(3, 9, -1);
        Due.due("holds by now", x.commit(), 1);
        x.when(0, 3, 0, 10);
        x.thenPut(3, 11, false);
        x.delete(3);
        Due.due("holds no more", x.commit(), 0);
        Due.due("revision()", x.revision(), 3);
        x.thenDelete(5, false);
        x.put(5, 1, -1);
        x.commit();
        Due.due("a key put since thenDelete is deleted", x.has(5, 5), false);
    }

    private static void commitPutsWithoutLease() {
        LeasedConfig x = new LeasedConfig();
        x.grant(0, 10);
        x.put(1, 1, 0);
        x.put(2, 1, 0);
        x.thenPut(1, 2, false);
        x.commit();
        Due.due("the lease is gone", x.attribute(4, 1), -1);
        Due.due("only key 2 still has it", x.revoke(0), 1);
        Due.due("key 1 stays", x.attribute(0, 1), 2);
    }

    private static void commitWhenFull() {
        LeasedConfig x = new LeasedConfig();
        for (int i = 0; i < 56; i++) {
            x.put(0, i, -1);
        }
        for (int key = 0; key < 4; key++) {
            x.thenPut(key, 100 + key, false);
        }
        Due.due("commit with 56 events", x.commit(), 1);
        Due.due("60 events", x.events(0, 15, 1), 60);
        Due.due("commit of nothing with 60 events", x.commit(), LeasedConfig.FULL);
        x.when(0, 0, 0, 100);
        x.thenPut(9, 9, false);
        x.thenPut(8, 8, true);
        Due.due("compact(3)", x.compact(3), 57);
        Due.due("commit with 57 events", x.commit(), LeasedConfig.FULL);
        Due.due("full: nothing changes", x.revision(), 57);
        Due.due("full: the condition stays", x.when(0, 0, 0, 100), 2);
        Due.due("full: the one list stays", x.thenDelete(3, false), 2);
        Due.due("full: the other list stays", x.thenDelete(3, true), 2);
        Due.due("compact(4)", x.compact(4), 56);
        Due.due("commit with 56 events again", x.commit(), 1);
        Due.due("what was kept is done", x.get(9, 58), 9);
        Due.due("and so is what was added", x.has(3, 58), false);
    }

    private static void refusedCallsAddNothing() {
        LeasedConfig x = new LeasedConfig();
        x.when(4, 0, 0, 1);
        x.when(0, 0, 4, 1);
        x.when(0, 16, 1, 0);
        x.thenPut(16, 1, false);
        x.thenPut(2, 5, false);
        x.thenPut(2, 6, false);
        x.thenDelete(2, false);
        Due.due("refused conditions do not count", x.commit(), 1);
        Due.due("refused actions are not done", x.get(2, 1), 5);
    }
}
