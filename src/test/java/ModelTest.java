/** All promises together: long runs of mixed calls, each answer compared with the Model's. */
public final class ModelTest {
    private static final int RUNS = 600;
    private static final int CALLS = 512;
    private static final int CALLS_BEYOND = 20000;
    private static final int[] ODD = {Integer.MIN_VALUE, Integer.MAX_VALUE, -2, -1, 16, 17, 51, 101, 1000};

    private final LeasedConfig x = new LeasedConfig();
    private final Model model = new Model();
    private final int run;
    private final int keys;
    private final int oddity;
    private final int compacting;
    private final int ending;
    private long state;

    private ModelTest(int run) {
        this.run = run;
        this.state = 0x9E3779B97F4A7C15L * (run + 1);
        this.keys = below(2) == 0 ? 16 : 4;
        this.oddity = below(2) == 0 ? 40 : 8;
        this.compacting = below(12);
        this.ending = below(8);
    }

    public static void main(String[] args) {
        for (int run = 0; run < RUNS && Due.wrongSoFar() == 0; run++) {
            ModelTest test = new ModelTest(run);
            for (int call = 0; call < CALLS; call++) {
                test.callOnce(call);
            }
        }
        for (int run = 0; run < 20; run++) {
            new ModelTest(run).callBeyondTheLimit();
        }
        Due.finish();
    }

    /** A fixed sequence of numbers for each run, so that a failure comes again. */
    private int below(int bound) {
        state ^= state << 13;
        state ^= state >>> 7;
        state ^= state << 17;
        return (int) ((state >>> 33) % bound);
    }

    private int between(int low, int high) {
        return below(oddity) == 0 ? ODD[below(ODD.length)] : low + below(high - low + 1);
    }

    private int key() {
        return between(0, keys - 1);
    }

    private int someRevision() {
        return revisionNear(model.revision());
    }

    private int revisionNear(int newest) {
        return between(Math.max(0, newest - 70), newest + 1);
    }

    private int someLease() {
        return between(-1, 3);
    }

    private void callOnce(int call) {
        int choice = below(20);
        if (choice < 6) {
            changeOnce(call);
        } else if (choice < 12) {
            transactOnce(call);
        } else if (choice < 15) {
            leaseOnce(call);
        } else {
            readOnce(call);
        }
    }

    private void due(int call, String text, long got, long want) {
        Due.due("run " + run + ", call " + call + ": " + text, got, want);
    }

    private void changeOnce(int call) {
        int key = key();
        if (below(4) == 0) {
            due(call, "delete(" + key + ")", x.delete(key), model.delete(key));
            return;
        }
        int value = between(-3, 6);
        int lease = someLease();
        due(call, "put(" + key + ", " + value + ", " + lease + ")",
            x.put(key, value, lease), model.put(key, value, lease));
    }

    private void transactOnce(int call) {
        int key = key();
        boolean otherwise = below(2) == 0;
        int choice = below(9);
        if (choice < 2) {
            int kind = between(0, 3);
            int cmp = between(0, 3);
            int number = kind == 2 || kind == 3 ? someRevision() : between(-2, 5);
            due(call, "when(" + kind + ", " + key + ", " + cmp + ", " + number + ")",
                x.when(kind, key, cmp, number), model.when(kind, key, cmp, number));
        } else if (choice < 5) {
            int value = between(-3, 6);
            due(call, "thenPut(" + key + ", " + value + ", " + otherwise + ")",
                x.thenPut(key, value, otherwise), model.then(key, value, otherwise));
        } else if (choice < 7) {
            due(call, "thenDelete(" + key + ", " + otherwise + ")",
                x.thenDelete(key, otherwise), model.then(key, null, otherwise));
        } else {
            due(call, "commit()", x.commit(), model.commit());
        }
    }

    private void leaseOnce(int call) {
        int lease = someLease();
        int choice = below(8 + ending);
        if (choice < ending / 2) {
            due(call, "revoke(" + lease + ")", x.revoke(lease), model.revoke(lease));
        } else if (choice < ending) {
            int n = between(0, below(3) == 0 ? 100 : 6);
            due(call, "pass(" + n + ")", x.pass(n), model.pass(n));
        } else if (choice < ending + 2) {
            due(call, "keep(" + lease + ")", x.keep(lease), model.keep(lease));
        } else {
            int ttl = between(0, 51);
            due(call, "grant(" + lease + ", " + ttl + ")", x.grant(lease, ttl), model.grant(lease, ttl));
        }
    }

    private void readOnce(int call) {
        int key = key();
        int revision = someRevision();
        int choice = below(12);
        if (choice == 0 && below(12) < compacting) {
            due(call, "compact(" + revision + ")", x.compact(revision), model.compact(revision));
        } else if (choice < 2) {
            due(call, "revision()", x.revision(), model.revision());
        } else if (choice < 5) {
            due(call, "get(" + key + ", " + revision + ")", x.get(key, revision), model.get(key, revision));
        } else if (choice < 7) {
            due(call, "has(" + key + ", " + revision + ")",
                x.has(key, revision) ? 1 : 0, model.has(key, revision) ? 1 : 0);
        } else if (choice < 10) {
            int kind = between(0, 4);
            due(call, "attribute(" + kind + ", " + key + ")", x.attribute(kind, key), model.attribute(kind, key));
        } else {
            int hi = key();
            due(call, "events(" + key + ", " + hi + ", " + revision + ")",
                x.events(key, hi, revision), model.events(key, hi, revision));
        }
    }

    /** What is answered after the 512th call is free, but no call may throw: LANGUAGE.md, rule 7. */
    private void callBeyondTheLimit() {
        for (int call = 0; call < CALLS_BEYOND; call++) {
            int key = key();
            int revision = revisionNear(x.revision());
            boolean otherwise = below(2) == 0;
            switch (below(16)) {
                case 0 -> x.delete(key);
                case 1 -> x.when(between(0, 3), key, between(0, 3), revision);
                case 2 -> x.thenPut(key, revision, otherwise);
                case 3 -> x.thenDelete(key, otherwise);
                case 4 -> x.commit();
                case 5 -> x.grant(someLease(), between(1, 50));
                case 6 -> x.keep(someLease());
                case 7 -> x.revoke(someLease());
                case 8 -> x.pass(between(0, 100));
                case 9 -> x.compact(revision);
                case 10 -> x.get(key, revision);
                case 11 -> x.has(key, revision);
                case 12 -> x.attribute(between(0, 4), key);
                case 13 -> x.events(key, key(), revision);
                default -> x.put(key, revision, someLease());
            }
        }
    }
}
