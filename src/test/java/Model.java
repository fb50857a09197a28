import java.util.ArrayList;
import java.util.List;
import java.util.TreeMap;

/** The document's words over a whole snapshot for every revision: slow and plain, to compare with. */
final class Model {
    record Entry(int value, int create, int mod, int version, int lease) {
    }

    record Condition(int kind, int key, int cmp, int number) {
    }

    record Action(int key, Integer value) {
    }

    record Lease(int ttl, int expiry) {
    }

    private final List<TreeMap<Integer, Entry>> snapshots = new ArrayList<>(List.of(new TreeMap<>()));
    private final List<Condition> conditions = new ArrayList<>();
    private final List<Action> held = new ArrayList<>();
    private final List<Action> other = new ArrayList<>();
    private final TreeMap<Integer, Lease> leases = new TreeMap<>();
    private int oldest = 0;
    private int time = 0;

    int revision() {
        return snapshots.size() - 1;
    }

    private TreeMap<Integer, Entry> now() {
        return snapshots.get(revision());
    }

    /** A put always moves MOD, so an event is a key that differs from the snapshot before. */
    int countEvents(long lo, long hi, long from) {
        int count = 0;
        for (long revision = Math.max(from, 1); revision <= revision(); revision++) {
            for (int key = 0; key <= 15; key++) {
                Entry before = snapshots.get((int) revision - 1).get(key);
                Entry after = snapshots.get((int) revision).get(key);
                boolean same = before == null ? after == null : before.equals(after);
                if (!same && key >= lo && key <= hi) {
                    count++;
                }
            }
        }
        return count;
    }

    private int history() {
        return countEvents(0, 15, oldest + 1);
    }

    private void change(List<Action> actions, int lease) {
        TreeMap<Integer, Entry> next = new TreeMap<>(now());
        int revision = revision() + 1;
        boolean changed = false;
        for (Action action : actions) {
            Entry old = next.get(action.key());
            if (action.value() == null) {
                changed |= next.remove(action.key()) != null;
                continue;
            }
            int create = old == null ? revision : old.create();
            int version = old == null ? 1 : old.version() + 1;
            next.put(action.key(), new Entry(action.value(), create, revision, version, lease));
            changed = true;
        }
        if (changed) {
            snapshots.add(next);
        }
    }

    private static boolean badKey(int key) {
        return key < 0 || key > 15;
    }

    int put(int key, int value, int lease) {
        if (badKey(key)) return LeasedConfig.BAD_KEY;
        if (lease != -1 && !leases.containsKey(lease)) return LeasedConfig.NO_LEASE;
        if (history() >= 60) return LeasedConfig.FULL;
        change(List.of(new Action(key, value)), lease);
        return revision();
    }

    int delete(int key) {
        if (badKey(key)) return LeasedConfig.BAD_KEY;
        if (!now().containsKey(key)) return LeasedConfig.NO_KEY;
        if (history() >= 60) return LeasedConfig.FULL;
        change(List.of(new Action(key, null)), -1);
        return revision();
    }

    int when(int kind, int key, int cmp, int number) {
        if (badKey(key)) return LeasedConfig.BAD_KEY;
        if (kind < 0 || kind > 3 || cmp < 0 || cmp > 3) return LeasedConfig.BAD_KIND;
        if (conditions.size() == 4) return LeasedConfig.FULL;
        conditions.add(new Condition(kind, key, cmp, number));
        return conditions.size();
    }

    int then(int key, Integer value, boolean otherwise) {
        List<Action> list = otherwise ? other : held;
        if (badKey(key)) return LeasedConfig.BAD_KEY;
        if (list.stream().anyMatch(action -> action.key() == key)) return LeasedConfig.BAD_KIND;
        if (list.size() == 4) return LeasedConfig.FULL;
        list.add(new Action(key, value));
        return list.size();
    }

    private boolean holds(Condition condition) {
        int order = Integer.compare(attribute(condition.kind(), condition.key()), condition.number());
        return switch (condition.cmp()) {
            case 0 -> order == 0;
            case 1 -> order != 0;
            case 2 -> order < 0;
            default -> order > 0;
        };
    }

    int commit() {
        if (history() > 56) return LeasedConfig.FULL;
        boolean hold = conditions.stream().allMatch(this::holds);
        change(hold ? held : other, -1);
        conditions.clear();
        held.clear();
        other.clear();
        return hold ? 1 : 0;
    }

    int grant(int lease, int ttl) {
        if (lease < 0 || lease > 3) return LeasedConfig.NO_LEASE;
        if (leases.containsKey(lease)) return LeasedConfig.HELD;
        if (ttl < 1 || ttl > 50) return LeasedConfig.BAD_TIME;
        leases.put(lease, new Lease(ttl, time + ttl));
        return time + ttl;
    }

    int keep(int lease) {
        if (!leases.containsKey(lease)) return LeasedConfig.NO_LEASE;
        int ttl = leases.get(lease).ttl();
        leases.put(lease, new Lease(ttl, time + ttl));
        return time + ttl;
    }

    int revoke(int lease) {
        if (!leases.containsKey(lease)) return LeasedConfig.NO_LEASE;
        leases.remove(lease);
        List<Action> deletes = new ArrayList<>();
        now().forEach((key, entry) -> {
            if (entry.lease() == lease) {
                deletes.add(new Action(key, null));
            }
        });
        change(deletes, -1);
        return deletes.size();
    }

    int pass(int n) {
        if (n < 0 || n > 100) return LeasedConfig.BAD_TIME;
        time += n;
        List<Integer> ended = new ArrayList<>();
        leases.forEach((lease, terms) -> {
            if (terms.expiry() <= time) {
                ended.add(lease);
            }
        });
        // The sort is stable and the map gives the smaller leases first.
        ended.sort((a, b) -> Integer.compare(leases.get(a).expiry(), leases.get(b).expiry()));
        ended.forEach(this::revoke);
        return ended.size();
    }

    private boolean badRevision(int revision) {
        return revision < oldest || revision > revision();
    }

    int compact(int revision) {
        if (badRevision(revision)) return LeasedConfig.BAD_REVISION;
        oldest = revision;
        return history();
    }

    int get(int key, int revision) {
        if (badKey(key)) return LeasedConfig.BAD_KEY;
        if (badRevision(revision)) return LeasedConfig.BAD_REVISION;
        Entry entry = snapshots.get(revision).get(key);
        return entry == null ? 0 : entry.value();
    }

    boolean has(int key, int revision) {
        return !badKey(key) && !badRevision(revision) && snapshots.get(revision).containsKey(key);
    }

    int attribute(int kind, int key) {
        if (badKey(key)) return LeasedConfig.BAD_KEY;
        if (kind < 0 || kind > 4) return LeasedConfig.BAD_KIND;
        Entry entry = now().get(key);
        if (entry == null) return kind == 4 ? -1 : 0;
        int[] byKind = {entry.value(), entry.version(), entry.mod(), entry.create(), entry.lease()};
        return byKind[kind];
    }

    int events(int lo, int hi, int from) {
        if (from < oldest + 1 || from > revision() + 1) return LeasedConfig.BAD_REVISION;
        return countEvents(lo, hi, from);
    }
}
