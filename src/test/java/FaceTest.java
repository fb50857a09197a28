import java.lang.reflect.Constructor;
import java.lang.reflect.Field;
import java.lang.reflect.Method;
import java.lang.reflect.Modifier;
import java.util.Arrays;
import java.util.Set;
import java.util.TreeSet;

/** The public face: the members that the document names, and no other that can be seen. */
public final class FaceTest {
    private static final String[] FACE = {
        "public static final int BAD_KEY",
        "public static final int BAD_KIND",
        "public static final int NO_LEASE",
        "public static final int NO_KEY",
        "public static final int FULL",
        "public static final int HELD",
        "public static final int BAD_REVISION",
        "public static final int BAD_TIME",
        "public LeasedConfig()",
        "public int put(int, int, int)",
        "public int delete(int)",
        "public int when(int, int, int, int)",
        "public int thenPut(int, int, boolean)",
        "public int thenDelete(int, boolean)",
        "public int commit()",
        "public int grant(int, int)",
        "public int keep(int)",
        "public int revoke(int)",
        "public int pass(int)",
        "public int compact(int)",
        "public int revision()",
        "public int get(int, int)",
        "public boolean has(int, int)",
        "public int attribute(int, int)",
        "public int events(int, int, int)",
    };

    private FaceTest() {
    }

    public static void main(String[] args) {
        constants();
        Set<String> due = new TreeSet<>(Arrays.asList(FACE));
        Set<String> seen = visibleMembers();
        for (String member : due) {
            Due.due("has member " + member, seen.contains(member), true);
        }
        for (String member : seen) {
            Due.due("member is of the document: " + member, due.contains(member), true);
        }
        int modifiers = LeasedConfig.class.getModifiers();
        Due.due("class is public", Modifier.isPublic(modifiers), true);
        Due.due("class is final", Modifier.isFinal(modifiers), true);
        Due.due("nested classes", LeasedConfig.class.getDeclaredClasses().length, 0);
        Due.finish();
    }

    private static void constants() {
        Due.due("BAD_KEY", LeasedConfig.BAD_KEY, -1);
        Due.due("BAD_KIND", LeasedConfig.BAD_KIND, -2);
        Due.due("NO_LEASE", LeasedConfig.NO_LEASE, -3);
        Due.due("NO_KEY", LeasedConfig.NO_KEY, -4);
        Due.due("FULL", LeasedConfig.FULL, -5);
        Due.due("HELD", LeasedConfig.HELD, -6);
        Due.due("BAD_REVISION", LeasedConfig.BAD_REVISION, -7);
        Due.due("BAD_TIME", LeasedConfig.BAD_TIME, -8);
    }

    private static Set<String> visibleMembers() {
        Set<String> seen = new TreeSet<>();
        for (Field field : LeasedConfig.class.getDeclaredFields()) {
            if (!Modifier.isPrivate(field.getModifiers())) {
                seen.add(Modifier.toString(field.getModifiers()) + " " + field.getType() + " " + field.getName());
            }
        }
        for (Constructor<?> constructor : LeasedConfig.class.getDeclaredConstructors()) {
            seen.add(Modifier.toString(constructor.getModifiers()) + " " + constructor.getDeclaringClass().getName()
                + types(constructor.getParameterTypes()));
        }
        for (Method method : LeasedConfig.class.getDeclaredMethods()) {
            if (!Modifier.isPrivate(method.getModifiers())) {
                seen.add(Modifier.toString(method.getModifiers()) + " " + method.getReturnType() + " "
                    + method.getName() + types(method.getParameterTypes()));
            }
        }
        return seen;
    }

    private static String types(Class<?>[] types) {
        String text = Arrays.toString(types);
        return "(" + text.substring(1, text.length() - 1) + ")";
    }
}
