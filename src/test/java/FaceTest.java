import java.lang.reflect.Constructor;
import java.lang.reflect.Field;
import java.lang.reflect.Method;
import java.lang.reflect.Modifier;
import java.util.Set;
import java.util.TreeSet;

/** The class has just the face that the document shows, and nothing else that can be seen from outside. */
public final class FaceTest {
    private static final Set<String> FACE = Set.of(
        "OK = 0", "BAD = -1", "FULL = -2", "REFUSED = -3", "CYCLE = -4", "NONE = -1",
        "public TwinPlanner(int,int)",
        "public int TwinPlanner.add(int)",
        "public int TwinPlanner.probe(int)",
        "public int TwinPlanner.addBefore(int,int)",
        "public int TwinPlanner.setDeadline(int,int)",
        "public int TwinPlanner.link(int,int)",
        "public boolean TwinPlanner.unlink(int,int)",
        "public boolean TwinPlanner.remove(int)",
        "public int TwinPlanner.tasks()",
        "public int TwinPlanner.deadline(int)",
        "public boolean TwinPlanner.linked(int,int)",
        "public int TwinPlanner.span()",
        "public int TwinPlanner.earliest(int)",
        "public int TwinPlanner.tightest(int)",
        "public boolean TwinPlanner.couldPrecede(int,int)",
        "public int TwinPlanner.slotOf(int)",
        "public int TwinPlanner.shortSlotOf(int)");

    public static void main(String[] args) throws IllegalAccessException {
        Set<String> seen = new TreeSet<>();
        for (Field field : TwinPlanner.class.getDeclaredFields()) {
            int modifiers = field.getModifiers();
            if (!Modifier.isPrivate(modifiers)) {
                boolean constant = modifiers == (Modifier.PUBLIC | Modifier.STATIC | Modifier.FINAL);
                Check.due("public static final " + field, constant, true);
                seen.add(field.getName() + " = " + (constant ? field.get(null) : "?"));
            }
        }
        for (Constructor<?> constructor : TwinPlanner.class.getDeclaredConstructors()) {
            if (!Modifier.isPrivate(constructor.getModifiers())) {
                seen.add(constructor.toString());
            }
        }
        for (Method method : TwinPlanner.class.getDeclaredMethods()) {
            if (!Modifier.isPrivate(method.getModifiers())) {
                seen.add(method.toString());
            }
        }
        for (String part : FACE) {
            Check.due("the face has " + part, seen.contains(part), true);
        }
        for (String part : seen) {
            Check.due("the document has " + part, FACE.contains(part), true);
        }
        Check.due("the class's modifiers", TwinPlanner.class.getModifiers(), Modifier.PUBLIC | Modifier.FINAL);
        Check.end();
    }
}
