import java.lang.reflect.Constructor;
import java.lang.reflect.Field;
import java.lang.reflect.Member;
import java.lang.reflect.Method;
import java.lang.reflect.Modifier;
import java.util.Arrays;
import java.util.Map;
import java.util.Set;
import java.util.TreeSet;

/** The public face: its constants, its constructor, its methods, and nothing else. */
public final class FaceTest {
    private static final Map<String, Integer> NUMBERS = Map.ofEntries(
        Map.entry("write", 1), Map.entry("wipe", 0), Map.entry("fault", 0), Map.entry("lay", 0), Map.entry("courtier", 2),
        Map.entry("news", 2), Map.entry("belief", 2), Map.entry("pass", 1), Map.entry("prove", 3), Map.entry("hand", 2),
        Map.entry("swap", 2), Map.entry("undo", 0), Map.entry("behind", 3), Map.entry("comes", 1), Map.entry("first", 0),
        Map.entry("hush", 3), Map.entry("loose", 3), Map.entry("sooner", 2), Map.entry("offices", 1), Map.entry("mute", 0),
        Map.entry("see", 2), Map.entry("forget", 0), Map.entry("which", 0), Map.entry("kinds", 2), Map.entry("tongues", 4),
        Map.entry("reign", 3), Map.entry("keep", 0), Map.entry("back", 0), Map.entry("count", 1));

    public static void main(String[] args) {
        Due.same("BAD", DoubtCourt.BAD, -1);
        Due.same("NO", DoubtCourt.NO, -2);
        Due.same("FULL", DoubtCourt.FULL, -3);
        Due.same("NONE", DoubtCourt.NONE, -4);
        Due.isTrue("public and final", (DoubtCourt.class.getModifiers() & (Modifier.PUBLIC | Modifier.FINAL))
                == (Modifier.PUBLIC | Modifier.FINAL));
        methods();
        fields();
        constructors();
        inside();
        Due.end("FaceTest");
    }

    private static boolean isHidden(Member member) {
        return Modifier.isPrivate(member.getModifiers()) || member.isSynthetic();
    }

    private static void methods() {
        Set<String> seen = new TreeSet<>();
        for (Method method : DoubtCourt.class.getDeclaredMethods()) {
            String name = method.getName();
            if (isHidden(method)) {
                Due.isTrue("no hidden method named " + name, !NUMBERS.containsKey(name));
                continue;
            }
            Due.isTrue(name + " is of the face, once", NUMBERS.containsKey(name) && seen.add(name));
            Class<?>[] wanted = new Class<?>[NUMBERS.getOrDefault(name, 0)];
            Arrays.fill(wanted, int.class);
            Due.isTrue(name + " takes what it should", Arrays.equals(wanted, method.getParameterTypes()));
            Due.isTrue(name + " answers an int", method.getReturnType() == int.class);
            Due.isTrue(name + " is public", method.getModifiers() == Modifier.PUBLIC);
        }
        Due.same("methods of the face", seen.size(), NUMBERS.size());
    }

    private static void fields() {
        Set<String> seen = new TreeSet<>();
        for (Field field : DoubtCourt.class.getDeclaredFields()) {
            if (!isHidden(field)) {
                seen.add(field.getName());
                Due.isTrue("constant " + field.getName(), field.getType() == int.class
                        && field.getModifiers() == (Modifier.PUBLIC | Modifier.STATIC | Modifier.FINAL));
            }
        }
        Due.isTrue("the constants", seen.equals(new TreeSet<>(Set.of("BAD", "NO", "FULL", "NONE"))));
    }

    private static void constructors() {
        Constructor<?>[] all = DoubtCourt.class.getDeclaredConstructors();
        Due.same("constructors", all.length, 1);
        Due.isTrue("the constructor", all[0].getParameterCount() == 0 && all[0].getModifiers() == Modifier.PUBLIC);
    }

    private static void inside() {
        for (Class<?> one : DoubtCourt.class.getDeclaredClasses()) {
            int modifiers = one.getModifiers();
            Due.isTrue(one.getName() + " is private and static",
                    Modifier.isStatic(modifiers) && !Modifier.isPublic(modifiers) && !Modifier.isProtected(modifiers));
            for (Method method : one.getDeclaredMethods()) {
                Due.isTrue("no method inside named " + method.getName(), !NUMBERS.containsKey(method.getName()));
            }
        }
    }
}
