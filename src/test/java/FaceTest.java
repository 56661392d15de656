import java.lang.reflect.Constructor;
import java.lang.reflect.Field;
import java.lang.reflect.Method;
import java.lang.reflect.Modifier;
import java.util.Arrays;
import java.util.TreeSet;

/** The class shows the document's public face, and no other member that is not private. */
public final class FaceTest {
    private static final String[] FACE = {
        "public InvariantFinder()",
        "public static final int InvariantFinder.BAD",
        "public static final int InvariantFinder.FULL",
        "public static final int InvariantFinder.NONE",
        "public int InvariantFinder.sample(int,int,int,int)",
        "public void InvariantFinder.clear()",
        "public int InvariantFinder.samples()",
        "public int InvariantFinder.constant(int)",
        "public int InvariantFinder.bound(int,int)",
        "public int InvariantFinder.different(int)",
        "public int InvariantFinder.valueAt(int,int)",
        "public int InvariantFinder.modulus(int)",
        "public int InvariantFinder.remainder(int)",
        "public boolean InvariantFinder.relation(int,int,int)",
        "public int InvariantFinder.offset(int,int)",
        "public int InvariantFinder.line(int,int)",
        "public int InvariantFinder.slope(int,int)",
        "public int InvariantFinder.rise(int,int)",
        "public int InvariantFinder.equals()",
        "public boolean InvariantFinder.sums(int,int,int)",
    };

    public static void main(String[] args) {
        Class<?> c = InvariantFinder.class;
        TreeSet<String> seen = new TreeSet<>();
        TreeSet<String> shownNames = new TreeSet<>();
        TreeSet<String> hiddenNames = new TreeSet<>();
        for (Constructor<?> made : c.getDeclaredConstructors()) {
            seen.add(made.toString());
        }
        for (Field field : c.getDeclaredFields()) {
            if (!Modifier.isPrivate(field.getModifiers())) {
                seen.add(field.toString());
            }
        }
        for (Method method : c.getDeclaredMethods()) {
            boolean hidden = Modifier.isPrivate(method.getModifiers());
            (hidden ? hiddenNames : shownNames).add(method.getName());
            if (!hidden) {
                seen.add(method.toString());
            }
        }
        TreeSet<String> due = new TreeSet<>(Arrays.asList(FACE));
        hiddenNames.retainAll(shownNames);
        boolean isPublicFinal = Modifier.isPublic(c.getModifiers()) && Modifier.isFinal(c.getModifiers());
        if (!seen.equals(due) || !hiddenNames.isEmpty() || !isPublicFinal || c.getDeclaredClasses().length != 0) {
            System.out.println("seen: " + seen);
            System.out.println("due:  " + due);
            System.out.println("private methods with a public name: " + hiddenNames);
            System.out.println("public and final: " + isPublicFinal);
            System.exit(1);
        }
        System.out.println("the face is as due");
    }
}
