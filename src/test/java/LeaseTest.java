/** Promises 8 (grant), 9 (keep), 10 (revoke), 11 (pass), and 18 for these calls. */
public final class LeaseTest {
    private static final int MIN = Integer.MIN_VALUE;
    private static final int MAX = Integer.MAX_VALUE;
    private static final int[] BAD_LEASES = {-1, 4, -2, MIN, MAX};

    private LeaseTest() {
    }

    public static void main(String[] args) {
        grantAnswersAndRefuses();
        keepMovesTheExpiry();
        revokeDeletesInOneChange();
        revokeRefusals();
        revokeWhenFull();
        passMovesTime();
        passAtTheExpiry();
        passRevokesByExpiry();
        passRevokesEqualOnesByLease();
        passRefusals();
        Due.finish();
    }

    private static void grantAnswersAndRefuses() {
        LeasedConfig x = new LeasedConfig();
        for (int lease : BAD_LEASES) {
            Due.due("grant(" + lease + ", 5)", x.grant(lease, 5), LeasedConfig.NO_LEASE);
            Due.due("grant(" + lease + ", 0)", x.grant(lease, 0), LeasedConfig.NO_LEASE);
        }
        int[] badTtls = {0, -1, 51, MIN, MAX};
        for (int ttl : badTtls) {
            Due.due("grant(0, " + ttl + ")", x.grant(0, ttl), LeasedConfig.BAD_TIME);
        }
        Due.due("refused: not granted", x.keep(0), LeasedConfig.NO_LEASE);
        Due.due("grant(0, 1)", x.grant(0, 1), 1);
        Due.due("grant(3, 50)", x.grant(3, 50), 50);
        Due.due("grant(3, 7) when held", x.grant(3, 7), LeasedConfig.HELD);
        Due.due("HELD comes before BAD_TIME", x.grant(3, 51), LeasedConfig.HELD);
        Due.due("HELD changes no time to live", x.keep(3), 50);
        Due.due("grant is no change", x.revision(), 0);
        x.revoke(3);
        Due.due("grant(3, 7) after revoke", x.grant(3, 7), 7);
        x.pass(4);
        Due.due("grant(1, 10) at time 4", x.grant(1, 10), 14);
    }

    private static void keepMovesTheExpiry() {
        LeasedConfig x = new LeasedConfig();
        for (int lease : BAD_LEASES) {
            Due.due("keep(" + lease + ")", x.keep(lease), LeasedConfig.NO_LEASE);
        }
        Due.due("keep(2) not granted", x.keep(2), LeasedConfig.NO_LEASE);
        x.grant(2, 10);
        x.grant(1, 20);
        x.put(5, 55, 2);
        x.pass(9);
        Due.due("keep(2) at time 9", x.keep(2), 19);
        Due.due("keep(2) again", x.keep(2), 19);
        Due.due("pass(9), to one before the expiry", x.pass(9), 0);
        Due.due("key 5 is still there", x.attribute(0, 5), 55);
        Due.due("pass(1), to the expiry", x.pass(1), 1);
        Due.due("key 5 is deleted", x.attribute(1, 5), 0);
        Due.due("keep(2) after the expiry", x.keep(2), LeasedConfig.NO_LEASE);
        Due.due("keep(1) at time 19", x.keep(1), 39);
    }

    private static void revokeDeletesInOneChange() {
        LeasedConfig x = new LeasedConfig();
        x.grant(0, 10);
        x.grant(1, 10);
        x.put(0, 1, 0);
        x.put(15, 2, 0);
        x.put(7, 3, 1);
        x.put(8, 4, -1);
        x.put(3, 5, 0);
        x.delete(3);
        Due.due("revoke(0)", x.revoke(0), 2);
        Due.due("one revision", x.revision(), 7);
        Due.due("two events", x.events(0, 15, 7), 2);
        Due.due("key 0 is deleted", x.has(0, 7), false);
        Due.due("key 15 is deleted", x.has(15, 7), false);
        Due.due("key 0 was there", x.get(0, 6), 1);
        Due.due("key 7 stays", x.get(7, 7), 3);
        Due.due("key 7 has its lease", x.attribute(4, 7), 1);
        Due.due("key 8 stays", x.get(8, 7), 4);
        Due.due("lease 0 is granted no longer", x.revoke(0), LeasedConfig.NO_LEASE);
        x.put(7, 3, -1);
        Due.due("revoke(1) without keys", x.revoke(1), 0);
        Due.due("no new revision", x.revision(), 8);
        Due.due("lease 1 is granted no longer", x.keep(1), LeasedConfig.NO_LEASE);
        Due.due("a revoked lease does not expire", x.pass(100), 0);
    }

    private static void revokeRefusals() {
        LeasedConfig x = new LeasedConfig();
        x.put(4, 4, -1);
        for (int lease : BAD_LEASES) {
            Due.due("revoke(" + lease + ")", x.revoke(lease), LeasedConfig.NO_LEASE);
        }
        Due.due("revoke(3) not granted", x.revoke(3), LeasedConfig.NO_LEASE);
        Due.due("refused: revision()", x.revision(), 1);
        Due.due("refused: key 4 stays", x.has(4, 1), true);
    }

    /** The end of a lease is never refused as FULL: history can come to 76 events. */
    private static void revokeWhenFull() {
        LeasedConfig x = new LeasedConfig();
        x.grant(0, 50);
        x.grant(1, 50);
        for (int i = 0; i < 60; i++) {
            x.put(i % 16, i, i % 16 < 8 ? 0 : 1);
        }
        Due.due("full", x.put(0, 0, -1), LeasedConfig.FULL);
        Due.due("revoke(0) when full", x.revoke(0), 8);
        Due.due("pass(50) when full", x.pass(50), 1);
        Due.due("revision()", x.revision(), 62);
        Due.due("76 events", x.events(MIN, MAX, 1), 76);
        Due.due("16 deletes", x.events(0, 15, 61), 16);
        for (int key = 0; key < 16; key++) {
            Due.due("as of 60: key " + key, x.get(key, 60), key < 12 ? 48 + key : 32 + key);
            Due.due("as of 61: key " + key, x.has(key, 61), key >= 8);
            Due.due("as of 62: key " + key, x.has(key, 62), false);
        }
        Due.due("put with 76 events", x.put(0, 0, -1), LeasedConfig.FULL);
        Due.due("compact(61)", x.compact(61), 8);
        Due.due("put after compact", x.put(0, 0, -1), 63);
    }

    private static void passMovesTime() {
        LeasedConfig x = new LeasedConfig();
        Due.due("pass(0)", x.pass(0), 0);
        Due.due("time is 0", x.grant(0, 50), 50);
        Due.due("pass(49)", x.pass(49), 0);
        Due.due("time is 49", x.keep(0), 99);
        Due.due("pass(100)", x.pass(100), 1);
        Due.due("time is 149", x.grant(0, 1), 150);
        Due.due("pass is no change by itself", x.revision(), 0);
    }

    private static void passAtTheExpiry() {
        LeasedConfig x = new LeasedConfig();
        x.grant(3, 5);
        x.put(1, 1, 3);
        x.put(2, 1, 3);
        Due.due("pass(4)", x.pass(4), 0);
        Due.due("pass(0) before the expiry", x.pass(0), 0);
        Due.due("pass(1) to the expiry", x.pass(1), 1);
        Due.due("one change", x.revision(), 3);
        Due.due("two deletes", x.events(0, 15, 3), 2);
        Due.due("granted no longer", x.keep(3), LeasedConfig.NO_LEASE);
        Due.due("revoked once", x.pass(10), 0);
    }

    private static void passRevokesByExpiry() {
        LeasedConfig x = new LeasedConfig();
        int[] ttls = {30, 10, 40, 20};
        for (int lease = 0; lease < 4; lease++) {
            x.grant(lease, ttls[lease]);
            x.put(lease, 7, lease);
        }
        Due.due("pass(39)", x.pass(39), 3);
        Due.due("a revision for each", x.revision(), 7);
        boolean[][] there = {
            {true, true, true, true}, {true, false, true, true}, {true, false, true, false}, {false, false, true, false},
        };
        for (int i = 0; i < there.length; i++) {
            for (int key = 0; key < 4; key++) {
                Due.due("has(" + key + ", " + (4 + i) + ")", x.has(key, 4 + i), there[i][key]);
            }
        }
    }

    private static void passRevokesEqualOnesByLease() {
        LeasedConfig x = new LeasedConfig();
        x.grant(3, 20);
        x.grant(2, 20);
        x.grant(0, 50);
        x.put(3, 1, 3);
        x.put(2, 1, 2);
        x.put(0, 1, 0);
        x.pass(10);
        x.grant(1, 10);
        x.put(1, 1, 1);
        Due.due("pass(100)", x.pass(100), 4);
        Due.due("revision()", x.revision(), 8);
        Due.due("lease 1 is first", x.events(1, 1, 5), 1);
        Due.due("lease 1 is not second", x.events(1, 1, 6), 0);
        Due.due("lease 2 is second", x.events(2, 2, 6), 1);
        Due.due("lease 2 is not third", x.events(2, 2, 7), 0);
        Due.due("lease 3 is third", x.events(3, 3, 7), 1);
        Due.due("lease 3 is not fourth", x.events(3, 3, 8), 0);
        Due.due("lease 0 is fourth", x.events(0, 0, 8), 1);
    }

    private static void passRefusals() {
        LeasedConfig x = new LeasedConfig();
        x.grant(0, 1);
        int[] bad = {-1, 101, MIN, MAX};
        for (int n : bad) {
            Due.due("pass(" + n + ")", x.pass(n), LeasedConfig.BAD_TIME);
        }
        Due.due("refused: time is 0", x.keep(0), 1);
    }
}
