import java.util.ArrayList;
import java.util.HashMap;
import java.util.List;
import java.util.Map;
import java.util.function.BiConsumer;
import java.util.function.ToIntFunction;

/**
 * Makes a call that may change nothing, and compares the object with a twin on which it was not
 * made. Much of the state shows only through calls that change it, so each way of looking has an
 * object of its own; scene, call and look together stay below the 512 calls of the document.
 */
final class Unchanged {
    private record Look(String name, BiConsumer<LeasedConfig, List<Integer>> calls) {
    }

    private static final int MIN = Integer.MIN_VALUE;
    private static final int MAX = Integer.MAX_VALUE;
    private static final List<Look> LOOKS = looks();
    private static final Map<String, List<List<Integer>>> SEEN_BEFORE = new HashMap<>();

    private Unchanged() {
    }

    /** The answer of the call is the one that is due, and nothing changes. */
    static void due(Scene scene, String text, ToIntFunction<LeasedConfig> call, int want) {
        List<List<Integer>> before = SEEN_BEFORE.computeIfAbsent(scene.name(), name -> seenWithoutCall(scene));
        for (int i = 0; i < LOOKS.size(); i++) {
            LeasedConfig x = scene.make();
            Due.due(scene.name() + ": " + text, call.applyAsInt(x), want);
            List<Integer> after = see(LOOKS.get(i), x);
            Due.due(scene.name() + ": " + text + " changes nothing that is seen in: " + LOOKS.get(i).name(),
                after.equals(before.get(i)), true);
        }
    }

    private static List<List<Integer>> seenWithoutCall(Scene scene) {
        List<List<Integer>> seen = new ArrayList<>();
        for (Look look : LOOKS) {
            seen.add(see(look, scene.make()));
        }
        return seen;
    }

    private static List<Integer> see(Look look, LeasedConfig x) {
        List<Integer> answers = new ArrayList<>();
        look.calls().accept(x, answers);
        return answers;
    }

    private static List<Look> looks() {
        List<Look> looks = new ArrayList<>();
        for (int each = 0; each <= 15; each++) {
            int key = each;
            looks.add(new Look("key " + key, (x, answers) -> lookAtKey(x, key, answers)));
            looks.add(new Look("commit after a put of key " + key, (x, answers) -> {
                x.compact(x.revision());
                answers.add(x.put(key, 999, -1));
                lookAtCommit(x, answers);
            }));
            looks.add(new Look("commit after a delete of key " + key, (x, answers) -> {
                x.compact(x.revision());
                answers.add(x.delete(key));
                lookAtCommit(x, answers);
            }));
        }
        looks.add(new Look("commit", Unchanged::lookAtCommit));
        looks.add(new Look("commit after compact", (x, answers) -> {
            answers.add(x.compact(x.revision()));
            lookAtCommit(x, answers);
        }));
        looks.add(new Look("compact", Unchanged::lookAtCompact));
        looks.add(new Look("room for puts", Unchanged::lookAtRoom));
        looks.add(new Look("conditions", Unchanged::lookAtConditions));
        looks.add(new Look("lists", Unchanged::lookAtLists));
        looks.add(new Look("keep and grant", Unchanged::lookAtKeep));
        looks.add(new Look("revoke", Unchanged::lookAtRevoke));
        looks.add(new Look("pass step by step", Unchanged::lookAtPass));
        looks.add(new Look("pass at once", (x, answers) -> {
            answers.add(x.pass(100));
            lookAtNow(x, answers);
        }));
        return looks;
    }

    private static void lookAtKey(LeasedConfig x, int key, List<Integer> answers) {
        int newest = x.revision();
        answers.add(newest);
        for (int kind = 0; kind <= 4; kind++) {
            answers.add(x.attribute(kind, key));
        }
        for (int revision = -1; revision <= newest + 2; revision++) {
            answers.add(x.get(key, revision));
            answers.add(x.has(key, revision) ? 1 : 0);
            answers.add(x.events(key, key, revision));
        }
    }

    private static void lookAtNow(LeasedConfig x, List<Integer> answers) {
        int newest = x.revision();
        answers.add(newest);
        for (int key = 0; key <= 15; key++) {
            for (int kind = 0; kind <= 4; kind++) {
                answers.add(x.attribute(kind, key));
            }
        }
        for (int revision = 0; revision <= newest + 1; revision++) {
            answers.add(x.events(MIN, MAX, revision));
        }
    }

    private static void lookAtCommit(LeasedConfig x, List<Integer> answers) {
        answers.add(x.commit());
        lookAtNow(x, answers);
    }

    private static void lookAtCompact(LeasedConfig x, List<Integer> answers) {
        int newest = x.revision();
        for (int revision = -1; revision <= newest + 1; revision++) {
            answers.add(x.compact(revision));
            answers.add(x.get(revision & 15, revision));
            answers.add(x.has(revision & 15, revision) ? 1 : 0);
        }
    }

    private static void lookAtRoom(LeasedConfig x, List<Integer> answers) {
        for (int i = 0; i <= 60; i++) {
            answers.add(x.put(9, i, -1));
        }
    }

    private static void lookAtConditions(LeasedConfig x, List<Integer> answers) {
        for (int i = 0; i <= 4; i++) {
            answers.add(x.when(0, 0, 0, 0));
        }
    }

    private static void lookAtLists(LeasedConfig x, List<Integer> answers) {
        for (int key = 0; key <= 15; key++) {
            answers.add(x.thenDelete(key, false));
            answers.add(x.thenDelete(key, true));
        }
    }

    private static void lookAtKeep(LeasedConfig x, List<Integer> answers) {
        for (int lease = 0; lease <= 3; lease++) {
            answers.add(x.keep(lease));
            answers.add(x.grant(lease, 7));
        }
        lookAtNow(x, answers);
    }

    private static void lookAtRevoke(LeasedConfig x, List<Integer> answers) {
        for (int lease = 0; lease <= 3; lease++) {
            answers.add(x.revoke(lease));
        }
        lookAtNow(x, answers);
    }

    private static void lookAtPass(LeasedConfig x, List<Integer> answers) {
        for (int step = 0; step <= 50; step++) {
            answers.add(x.pass(1));
            answers.add(x.revision());
        }
        lookAtNow(x, answers);
    }
}
