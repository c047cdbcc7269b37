import java.lang.reflect.Constructor;
import java.lang.reflect.Field;
import java.lang.reflect.Method;
import java.lang.reflect.Modifier;
import java.util.Arrays;
import java.util.Set;
import java.util.TreeSet;
import java.util.stream.Collectors;

/** The public face: all that the document names, and nothing else that can be seen from outside. */
public final class FaceTest {
    private static final String[] METHODS = {
        "told 1", "brokerAt 2", "clientAt 2", "log 2", "wishAt 2", "toldOn 2", "box 4", "would 5", "broker 1",
        "client 1", "wish 7", "drop 1", "most 1", "put 4", "leave 1", "come 2", "part 0", "drift 1", "undo 1",
        "write 2", "tear 0", "seed 1", "keep 1", "goBack 1",
    };

    public static void main(String[] args) {
        Class<?> face = NoticeBoxes.class;
        Check.holds("the class is public and final",
                Modifier.isPublic(face.getModifiers()) && Modifier.isFinal(face.getModifiers()));
        lookAtConstants(face);
        lookAtMethods(face);
        Constructor<?>[] made = face.getDeclaredConstructors();
        Check.holds("one public constructor without arguments",
                made.length == 1 && made[0].getParameterCount() == 0 && Modifier.isPublic(made[0].getModifiers()));
        Check.due("NONE", NoticeBoxes.NONE, -1);
        Check.due("UNKNOWN", NoticeBoxes.UNKNOWN, -1000000001);
        Check.due("OUTSIDE", NoticeBoxes.OUTSIDE, -1000000002);
        Check.due("NOT", NoticeBoxes.NOT, -1000000003);
        Check.due("FULL", NoticeBoxes.FULL, -1000000004);
        Check.end();
    }

    private static void lookAtConstants(Class<?> face) {
        Set<String> seen = new TreeSet<>();
        for (Field field : face.getDeclaredFields()) {
            int modifiers = field.getModifiers();
            if (Modifier.isStatic(modifiers)) {
                Check.holds(field + " is final", Modifier.isFinal(modifiers));
            }
            if (!Modifier.isPrivate(modifiers)) {
                seen.add(field.getName());
            }
        }
        Check.holds("constants seen: " + seen, seen.equals(Set.of("NONE", "UNKNOWN", "OUTSIDE", "NOT", "FULL")));
    }

    private static void lookAtMethods(Class<?> face) {
        Set<String> wanted = new TreeSet<>(Arrays.asList(METHODS));
        Set<String> names = wanted.stream().map(m -> m.split(" ")[0]).collect(Collectors.toSet());
        Set<String> seen = new TreeSet<>();
        for (Method method : face.getDeclaredMethods()) {
            if (Modifier.isPrivate(method.getModifiers())) {
                Check.holds(method + " bears no public name", !names.contains(method.getName()));
            } else {
                Check.holds(method + " answers an int to ints", method.getReturnType() == int.class
                        && Arrays.stream(method.getParameterTypes()).allMatch(t -> t == int.class));
                seen.add(method.getName() + " " + method.getParameterCount());
            }
        }
        Check.holds("methods seen: " + seen, seen.equals(wanted));
        for (Class<?> inside : face.getDeclaredClasses()) {
            int modifiers = inside.getModifiers();
            Check.holds(inside + " is static, not public or protected", Modifier.isStatic(modifiers)
                    && !Modifier.isPublic(modifiers) && !Modifier.isProtected(modifiers));
            for (Method method : inside.getDeclaredMethods()) {
                Check.holds(method + " bears no public name", !names.contains(method.getName()));
            }
        }
    }
}
