import java.lang.reflect.Constructor;
import java.lang.reflect.Field;
import java.lang.reflect.Method;
import java.lang.reflect.Modifier;
import java.util.Arrays;
import java.util.Set;
import java.util.TreeSet;
import java.util.stream.Collectors;

/** The class shows just the public face of the document and no other member. */
public final class FaceTest {
    private static final Set<String> FACE = Set.of(
        "public OrderMatcher()",
        "public int pattern(int)",
        "public int clearPattern()",
        "public int take(int,int)",
        "public int feed(int)",
        "public int ramp(int,int,int)",
        "public int echo(int,int,int)",
        "public int undo(int)",
        "public int length()",
        "public int patternLength()",
        "public int valueAt(int)",
        "public int occurrences()",
        "public int occurrence(int)",
        "public int occursAt(int)",
        "public int nextFrom(int)",
        "public int matchedAt(int)",
        "public int border(int)",
        "public int period()",
        "public int rank(int)",
        "public int disjoint()");

    public static void main(String[] args) {
        Class<?> type = OrderMatcher.class;
        Set<String> seen = new TreeSet<>();
        for (Constructor<?> constructor : type.getDeclaredConstructors()) {
            addUnlessPrivate(seen, constructor.getModifiers(), constructor.toString());
        }
        for (Method method : type.getDeclaredMethods()) {
            String parameters = Arrays.stream(method.getParameterTypes())
                .map(Class::getTypeName).collect(Collectors.joining(","));
            addUnlessPrivate(seen, method.getModifiers(), Modifier.toString(method.getModifiers()) + " "
                + method.getReturnType().getTypeName() + " " + method.getName() + "(" + parameters + ")");
        }
        for (Field field : type.getDeclaredFields()) {
            addUnlessPrivate(seen, field.getModifiers(), field.toString());
        }
        boolean right = seen.equals(FACE)
            && type.getModifiers() == (Modifier.PUBLIC | Modifier.FINAL)
            && type.getDeclaredClasses().length == 0;
        System.out.println(right ? "the face is as due" : "the face is not as due: " + type.toGenericString() + " " + seen);
        if (!right) {
            System.exit(1);
        }
    }

    private static void addUnlessPrivate(Set<String> seen, int modifiers, String member) {
        if (!Modifier.isPrivate(modifiers)) {
            seen.add(member);
        }
    }
}
