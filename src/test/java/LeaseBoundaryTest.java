/** Each sentence of promises 8 to 11 that names a boundary, on both sides of it. */
public final class LeaseBoundaryTest {
    private static final int MIN = Integer.MIN_VALUE;
    private static final int MAX = Integer.MAX_VALUE;
    private static final int[] NEVER_LEASES = {-2, -1, 4, MIN, MAX};
    private static final int[] BAD_TTLS = {-1, 0, 51, MIN, MAX};
    private static final int[] EDGE_TTLS = {1, 2, 49, 50};
    private static final int[] BAD_STEPS = {-1, 101, MIN, MAX};

    private LeaseBoundaryTest() {
    }

    public static void main(String[] args) {
        grantRefusesWhatIsNoLease();
        grantRefusesHeldLeases();
        grantRefusesBadTimes();
        grantTakesEveryLeaseAndTime();
        keepRefusesWhatIsNotGranted();
        keepCountsFromNow();
        revokeRefusesWhatIsNotGranted();
        revokeOfAnyNumberOfKeys();
        revokeWhenHistoryIsFull();
        passRefusesBadSteps();
        passTakesEveryStep();
        passAroundTheExpiry();
        passInTheOrderOfExpiries();
        passInTheOrderOfKeptExpiries();
        passOfLeasesWithoutKeys();
        passWhenHistoryIsFull();
        Due.finish();
    }

    private static void grantIsRefused(Scene scene, int lease, int ttl, int want) {
        Unchanged.due(scene, "grant(" + lease + ", " + ttl + ")", x -> x.grant(lease, ttl), want);
    }

    // Promise 8: "lease not in 0 to 3: NO_LEASE", before BAD_TIME
    private static void grantRefusesWhatIsNoLease() {
        for (Scene scene : Scene.ALL) {
            for (int lease : NEVER_LEASES) {
                grantIsRefused(scene, lease, 1, LeasedConfig.NO_LEASE);
                grantIsRefused(scene, lease, 50, LeasedConfig.NO_LEASE);
                for (int ttl : BAD_TTLS) {
                    grantIsRefused(scene, lease, ttl, LeasedConfig.NO_LEASE);
                }
            }
        }
    }

    // Promise 8: "it is granted: HELD", before BAD_TIME
    private static void grantRefusesHeldLeases() {
        for (Scene scene : Scene.ALL) {
            for (int lease : scene.granted()) {
                for (int ttl : EDGE_TTLS) {
                    grantIsRefused(scene, lease, ttl, LeasedConfig.HELD);
                }
                for (int ttl : BAD_TTLS) {
                    grantIsRefused(scene, lease, ttl, LeasedConfig.HELD);
                }
            }
        }
    }

    // Promise 8: "ttl not in 1 to 50: BAD_TIME; nothing changes then."
    private static void grantRefusesBadTimes() {
        for (Scene scene : Scene.ALL) {
            for (int lease : scene.free()) {
                for (int ttl : BAD_TTLS) {
                    grantIsRefused(scene, lease, ttl, LeasedConfig.BAD_TIME);
                }
            }
        }
    }

    private static void grantTakesEveryLeaseAndTime() {
        for (int lease = 0; lease <= 3; lease++) {
            for (int ttl = 1; ttl <= 50; ttl++) {
                LeasedConfig x = new LeasedConfig();
                Due.due("grant(" + lease + ", " + ttl + ")", x.grant(lease, ttl), ttl);
                Due.due("again", x.grant(lease, ttl), LeasedConfig.HELD);
                Due.due("pass to one before the expiry", x.pass(ttl - 1), 0);
                Due.due("again, one before the expiry", x.grant(lease, ttl), LeasedConfig.HELD);
                Due.due("pass to the expiry", x.pass(1), 1);
                Due.due("again, after the expiry", x.grant(lease, ttl), 2 * ttl);
                Due.due("revoke", x.revoke(lease), 0);
                Due.due("again, after revoke", x.grant(lease, 51 - ttl), ttl + 51 - ttl);
                Due.due("the new time to live", x.keep(lease), ttl + 51 - ttl);
                Due.due("grant is no change", x.revision(), 0);
            }
        }
    }

    // Promise 9: "Not a granted lease: NO_LEASE, nothing changes."
    private static void keepRefusesWhatIsNotGranted() {
        for (Scene scene : Scene.ALL) {
            for (int lease : NEVER_LEASES) {
                Unchanged.due(scene, "keep(" + lease + ")", x -> x.keep(lease), LeasedConfig.NO_LEASE);
            }
            for (int lease : scene.free()) {
                Unchanged.due(scene, "keep(" + lease + ")", x -> x.keep(lease), LeasedConfig.NO_LEASE);
            }
        }
    }

    private static void keepCountsFromNow() {
        for (int lease = 0; lease <= 3; lease++) {
            for (int ttl : EDGE_TTLS) {
                LeasedConfig x = new LeasedConfig();
                x.grant(lease, ttl);
                x.put(15, 1, lease);
                Due.due("keep at once", x.keep(lease), ttl);
                x.pass(ttl - 1);
                Due.due("keep one before the expiry", x.keep(lease), 2 * ttl - 1);
                Due.due("pass to one before the new expiry", x.pass(ttl - 1), 0);
                Due.due("the key is there", x.has(15, 1), true);
                Due.due("pass to the new expiry", x.pass(1), 1);
                Due.due("the key is gone", x.has(15, 2), false);
                Due.due("keep after the expiry", x.keep(lease), LeasedConfig.NO_LEASE);
            }
        }
    }

    // Promise 10: "Not a granted lease: NO_LEASE, nothing changes." Keys without lease are no lease's keys.
    private static void revokeRefusesWhatIsNotGranted() {
        for (Scene scene : Scene.ALL) {
            for (int lease : NEVER_LEASES) {
                Unchanged.due(scene, "revoke(" + lease + ")", x -> x.revoke(lease), LeasedConfig.NO_LEASE);
            }
            for (int lease : scene.free()) {
                Unchanged.due(scene, "revoke(" + lease + ")", x -> x.revoke(lease), LeasedConfig.NO_LEASE);
            }
        }
    }

    // Promise 10: "all present keys that have it are deleted in one change (none: no new revision)"
    private static void revokeOfAnyNumberOfKeys() {
        for (int lease = 0; lease <= 3; lease++) {
            for (int keys = 0; keys <= 16; keys++) {
                LeasedConfig x = new LeasedConfig();
                x.grant(lease, 5);
                x.grant((lease + 1) % 4, 5);
                for (int key = 0; key <= 15; key++) {
                    x.put(key, key, key < keys ? lease : key % 2 == 0 ? -1 : (lease + 1) % 4);
                }
                Due.due("revoke of " + keys + " keys", x.revoke(lease), keys);
                Due.due("one revision or none", x.revision(), keys == 0 ? 16 : 17);
                Due.due("their events", x.events(MIN, MAX, 17), keys);
                for (int key = 0; key <= 15; key++) {
                    Due.due("key " + key, x.has(key, x.revision()), key >= keys);
                }
                Due.due("revoke again", x.revoke(lease), LeasedConfig.NO_LEASE);
                Due.due("keep", x.keep(lease), LeasedConfig.NO_LEASE);
                Due.due("grant again", x.grant(lease, 5), 5);
                Due.due("it has no keys now", x.revoke(lease), 0);
            }
        }
    }

    // Promise 10 names no FULL: the keys are deleted whatever history has.
    private static void revokeWhenHistoryIsFull() {
        for (int events = 59; events <= 60; events++) {
            LeasedConfig x = Scene.withEvents(events).make();
            Due.due("revoke(0) with " + events + " events", x.revoke(0), 2);
            Due.due("one revision", x.revision(), events + 3);
            Due.due("two events more", x.events(MIN, MAX, 3), events + 2);
            Due.due("revoke(2) with " + (events + 2) + " events", x.revoke(2), 1);
            Due.due("one event more", x.events(MIN, MAX, 3), events + 3);
            Due.due("key 0", x.has(0, events + 4), false);
            Due.due("key 3", x.has(3, events + 4), false);
            Due.due("key 8", x.has(8, events + 4), true);
            Due.due("key 15 before", x.has(15, events + 3), true);
            Due.due("key 15", x.has(15, events + 4), false);
        }
        Due.due("revoke of a lease without keys with 76 events", Scene.EVENTS_76.make().revoke(3), 0);
    }

    // Promise 11: "n not in 0 to 100: BAD_TIME, nothing changes."
    private static void passRefusesBadSteps() {
        for (Scene scene : Scene.ALL) {
            for (int n : BAD_STEPS) {
                Unchanged.due(scene, "pass(" + n + ")", x -> x.pass(n), LeasedConfig.BAD_TIME);
            }
        }
    }

    private static void passTakesEveryStep() {
        for (int n = 0; n <= 100; n++) {
            LeasedConfig x = new LeasedConfig();
            Due.due("pass(" + n + ")", x.pass(n), 0);
            Due.due("time is " + n, x.grant(3, 1), n + 1);
            Due.due("pass(0) leaves the lease", x.pass(0), 0);
            Due.due("pass(100)", x.pass(100), 1);
            Due.due("time is 100 more", x.grant(3, 50), n + 150);
            Due.due("time alone is no change", x.revision(), 0);
        }
    }

    // Promise 11: "every lease whose expiry is at most the time"
    private static void passAroundTheExpiry() {
        for (int lease = 0; lease <= 3; lease++) {
            for (int ttl : EDGE_TTLS) {
                for (int n = ttl - 1; n <= ttl + 1; n++) {
                    LeasedConfig x = new LeasedConfig();
                    x.pass(7);
                    x.grant(lease, ttl);
                    x.put(0, 1, lease);
                    x.put(15, 1, lease);
                    boolean ends = n >= ttl;
                    Due.due("ttl " + ttl + ": pass(" + n + ")", x.pass(n), ends ? 1 : 0);
                    Due.due("one change or none", x.revision(), ends ? 3 : 2);
                    Due.due("key 0", x.has(0, x.revision()), !ends);
                    Due.due("key 15", x.has(15, x.revision()), !ends);
                    Due.due("keep", x.keep(lease), ends ? LeasedConfig.NO_LEASE : 7 + n + ttl);
                }
            }
        }
    }

    // Promise 11: "those with the smaller expiry first, of equal ones the smaller lease first"
    private static void passInTheOrderOfExpiries() {
        for (int code = 0; code < 256; code++) {
            int[] expiries = {1 + (code & 3), 1 + (code >> 2 & 3), 1 + (code >> 4 & 3), 1 + (code >> 6 & 3)};
            for (int n = 0; n <= 5; n++) {
                LeasedConfig up = new LeasedConfig();
                LeasedConfig down = new LeasedConfig();
                for (int i = 0; i <= 3; i++) {
                    grantWithKey(up, i, expiries[i]);
                    grantWithKey(down, 3 - i, expiries[3 - i]);
                }
                endedInOrder("granted upwards, code " + code + ": pass(" + n + ")", up, n, expiries);
                endedInOrder("granted downwards, code " + code + ": pass(" + n + ")", down, n, expiries);
            }
        }
    }

    private static void grantWithKey(LeasedConfig x, int lease, int ttl) {
        x.grant(lease, ttl);
        x.put(15 - lease, 1, lease);
    }

    private static void endedInOrder(String about, LeasedConfig x, int n, int[] expiries) {
        int ended = 0;
        int[] places = new int[4];
        for (int lease = 0; lease <= 3; lease++) {
            if (expiries[lease] > n) {
                continue;
            }
            ended++;
            for (int other = 0; other <= 3; other++) {
                boolean before = expiries[other] < expiries[lease]
                    || expiries[other] == expiries[lease] && other <= lease;
                places[lease] += before ? 1 : 0;
            }
        }
        Due.due(about, x.pass(n), ended);
        Due.due(about + ": a revision for each", x.revision(), 4 + ended);
        for (int lease = 0; lease <= 3; lease++) {
            int key = 15 - lease;
            for (int place = 0; place <= ended; place++) {
                boolean gone = places[lease] != 0 && places[lease] <= place;
                Due.due(about + ": key of lease " + lease + " as of " + (4 + place), x.has(key, 4 + place), !gone);
            }
        }
    }

    private static void passInTheOrderOfKeptExpiries() {
        LeasedConfig x = new LeasedConfig();
        int[] ttls = {5, 3, 6, 50};
        for (int lease = 0; lease <= 3; lease++) {
            grantWithKey(x, lease, ttls[lease]);
        }
        x.pass(2);
        Due.due("lease 1 now expires at 5", x.keep(1), 5);
        x.pass(1);
        Due.due("lease 1 now expires at 6", x.keep(1), 6);
        x.pass(1);
        Due.due("lease 0 now expires at 9", x.keep(0), 9);
        Due.due("pass to 5", x.pass(1), 0);
        Due.due("pass to 10", x.pass(5), 3);
        Due.due("a revision for each", x.revision(), 7);
        int[] ends = {7, 5, 6};
        for (int lease = 0; lease <= 2; lease++) {
            Due.due("before the end of lease " + lease, x.has(15 - lease, ends[lease] - 1), true);
            Due.due("after the end of lease " + lease, x.has(15 - lease, ends[lease]), false);
        }
        Due.due("lease 3 goes on", x.has(12, 7), true);
    }

    // Promises 10 and 11: a lease without keys is counted, and makes no revision.
    private static void passOfLeasesWithoutKeys() {
        for (int leases = 0; leases <= 4; leases++) {
            LeasedConfig x = new LeasedConfig();
            for (int lease = 0; lease < leases; lease++) {
                x.grant(lease, 50);
            }
            Due.due("pass(49) of " + leases + " leases", x.pass(49), 0);
            Due.due("pass(1) of " + leases + " leases", x.pass(1), leases);
            Due.due("no new revision", x.revision(), 0);
            Due.due("pass(100) afterwards", x.pass(100), 0);
        }
    }

    // Promise 11: "revoked as by revoke", which names no FULL.
    private static void passWhenHistoryIsFull() {
        LeasedConfig x = new LeasedConfig();
        for (int lease = 0; lease <= 3; lease++) {
            x.grant(lease, 50);
        }
        for (int i = 0; i < 60; i++) {
            x.put(i % 16, i, i % 4);
        }
        Due.due("pass(100) with 60 events", x.pass(100), 4);
        Due.due("a revision for each", x.revision(), 64);
        Due.due("76 events", x.events(MIN, MAX, 1), 76);
        for (int lease = 0; lease <= 3; lease++) {
            Due.due("events of revision " + (61 + lease) + " and above", x.events(0, 15, 61 + lease), 16 - 4 * lease);
        }
        for (int key = 0; key <= 15; key++) {
            Due.due("key " + key + " before", x.has(key, 60 + key % 4), true);
            Due.due("key " + key + " after", x.has(key, 61 + key % 4), false);
        }
    }
}
