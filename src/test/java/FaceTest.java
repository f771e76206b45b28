import java.lang.reflect.Constructor;
import java.lang.reflect.Field;
import java.lang.reflect.Member;
import java.lang.reflect.Method;
import java.lang.reflect.Modifier;
import java.util.Arrays;
import java.util.Set;
import java.util.TreeSet;

/** The public face is the document's, and nothing else of the class is to be seen. */
public final class FaceTest {
    private static final Checks CHECKS = new Checks("FaceTest");

    public static void main(String[] args) {
        Set<String> due = new TreeSet<>(Arrays.asList(
                "public static final int FULL",
                "public StepMap(int)",
                "public int put(int, int)",
                "public int get(int)",
                "public boolean has(int)",
                "public boolean remove(int)",
                "public int size()",
                "public int capacity()",
                "public boolean migrating()",
                "public int lastWork()",
                "public int slot(int)",
                "public int cursor()"));
        Set<String> seen = new TreeSet<>();
        for (Field field : StepMap.class.getDeclaredFields()) {
            addSeen(seen, field, field.getType().getSimpleName() + " " + field.getName());
        }
        for (Constructor<?> made : StepMap.class.getDeclaredConstructors()) {
            addSeen(seen, made, "StepMap" + parameters(made.getParameterTypes()));
        }
        for (Method method : StepMap.class.getDeclaredMethods()) {
            addSeen(seen, method, method.getReturnType().getSimpleName() + " " + method.getName()
                    + parameters(method.getParameterTypes()));
        }
        for (String member : due) {
            CHECKS.due("is there: " + member, seen.contains(member), true);
        }
        for (String member : seen) {
            CHECKS.due("is of the document: " + member, due.contains(member), true);
        }
        CHECKS.due("StepMap is public and final", StepMap.class.getModifiers(), Modifier.PUBLIC | Modifier.FINAL);
        CHECKS.end();
    }

    private static void addSeen(Set<String> seen, Member member, String text) {
        if (!Modifier.isPrivate(member.getModifiers()) && !member.isSynthetic()) {
            String modifiers = Modifier.toString(member.getModifiers());
            seen.add(modifiers.isEmpty() ? text : modifiers + " " + text);
        }
    }

    private static String parameters(Class<?>[] types) {
        StringBuilder text = new StringBuilder("(");
        for (int i = 0; i < types.length; i++) {
            text.append(i == 0 ? "" : ", ").append(types[i].getSimpleName());
        }
        return text.append(")").toString();
    }
}
