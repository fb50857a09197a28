/** The scenes of the boundary tests are what they say, and so test the boundaries they stand for. */
public final class SceneTest {
    private SceneTest() {
    }

    public static void main(String[] args) {
        for (Scene scene : Scene.ALL) {
            revisions(scene);
            keys(scene);
            leases(scene);
        }
        time();
        transactions();
        Due.finish();
    }

    private static void revisions(Scene scene) {
        LeasedConfig x = scene.make();
        Due.due(scene.name() + ": revision()", x.revision(), scene.newest());
        Due.due(scene.name() + ": events", x.events(0, 15, scene.oldest() + 1), scene.events());
        Due.due(scene.name() + ": oldest", x.compact(scene.oldest()), scene.events());
        Due.due(scene.name() + ": below the oldest", x.compact(scene.oldest() - 1), LeasedConfig.BAD_REVISION);
    }

    private static void keys(Scene scene) {
        LeasedConfig x = scene.make();
        for (int key : scene.present()) {
            Due.due(scene.name() + ": key " + key + " is present", x.has(key, scene.newest()), true);
        }
        for (int key : scene.absent()) {
            Due.due(scene.name() + ": key " + key + " is absent", x.has(key, scene.newest()), false);
        }
    }

    private static void leases(Scene scene) {
        LeasedConfig x = scene.make();
        Due.due(scene.name() + ": four leases", scene.granted().length + scene.free().length, 4);
        for (int lease : scene.granted()) {
            Due.due(scene.name() + ": lease " + lease + " is granted", x.keep(lease) > 0, true);
        }
        for (int lease : scene.free()) {
            Due.due(scene.name() + ": lease " + lease + " is free", x.keep(lease), LeasedConfig.NO_LEASE);
        }
    }

    private static void time() {
        Due.due("new: time is 0", Scene.NEW.make().grant(0, 5), 5);
        Due.due("mixed: time is 3", Scene.MIXED.make().keep(0), 13);
        Due.due("mixed: lease 2 lives 50", Scene.MIXED.make().keep(2), 53);
    }

    private static void transactions() {
        Due.due("mixed: two conditions", Scene.MIXED.make().when(0, 0, 0, 0), 3);
        Due.due("mixed: two actions", Scene.MIXED.make().thenPut(8, 0, false), 3);
        Due.due("mixed: two other actions", Scene.MIXED.make().thenPut(8, 0, true), 3);
        Due.due("mixed: the conditions hold", Scene.MIXED.make().commit(), 1);
        Due.due("full list: a fifth", Scene.FULL_LIST.make().thenPut(8, 0, false), LeasedConfig.FULL);
        Due.due("full list: the other's third", Scene.FULL_LIST.make().thenPut(8, 0, true), 3);
        Due.due("full other list: a third", Scene.FULL_OTHER_LIST.make().thenPut(8, 0, false), 3);
        Due.due("full other list: the other's fifth", Scene.FULL_OTHER_LIST.make().thenPut(8, 0, true),
            LeasedConfig.FULL);
        Due.due("full transaction: the conditions hold", Scene.FULL_TRANSACTION.make().commit(), 1);
        LeasedConfig x = Scene.FULL_TRANSACTION.make();
        x.put(3, 32, -1);
        Due.due("full transaction: another value of key 3", x.commit(), 0);
    }
}
