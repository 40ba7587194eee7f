import java.lang.reflect.Constructor;
import java.lang.reflect.Field;
import java.lang.reflect.Method;
import java.lang.reflect.Modifier;
import java.util.Map;
import java.util.TreeMap;

/** The class shows what the document's public face lists, and nothing else. */
public final class FaceTest {
    private static final Check CHECK = new Check();
    private static final Map<String, Integer> FACE = new TreeMap<>(Map.ofEntries(
            Map.entry("unit", 3), Map.entry("offer", 3), Map.entry("need", 4), Map.entry("environment", 1),
            Map.entry("units", 0), Map.entry("profile", 0), Map.entry("sound", 1), Map.entry("cost", 1),
            Map.entry("plan", 2), Map.entry("planCost", 2), Map.entry("excess", 2), Map.entry("apply", 2),
            Map.entry("fail", 3), Map.entry("revert", 1), Map.entry("notes", 0), Map.entry("note", 1),
            Map.entry("touched", 1)));

    public static void main(String[] args) {
        Class<?> seen = ProvisionAgent.class;
        CHECK.due("class modifiers", seen.getModifiers(), Modifier.PUBLIC | Modifier.FINAL);
        CHECK.due("nested classes", seen.getDeclaredClasses().length, 0);
        CHECK.due("constructors", seen.getDeclaredConstructors().length, 1);
        for (Constructor<?> made : seen.getDeclaredConstructors()) {
            CHECK.due("constructor modifiers", made.getModifiers(), Modifier.PUBLIC);
            CHECK.due("constructor parameters", made.getParameterCount(), 0);
        }
        checkMethods(seen);
        for (Field field : seen.getDeclaredFields()) {
            int privacy = field.getModifiers() & Modifier.PRIVATE;
            CHECK.due("field " + field.getName() + " private", privacy, Modifier.PRIVATE);
        }
        CHECK.end();
    }

    private static void checkMethods(Class<?> seen) {
        int listed = 0;
        for (Method method : seen.getDeclaredMethods()) {
            String name = method.getName();
            Integer parameters = FACE.get(name);
            if (parameters == null) {
                CHECK.due(name + " private", method.getModifiers() & Modifier.PRIVATE, Modifier.PRIVATE);
                continue;
            }
            listed++;
            CHECK.due(name + " modifiers", method.getModifiers(), Modifier.PUBLIC);
            CHECK.due(name + " parameters", method.getParameterCount(), parameters);
            CHECK.due(name + " answers int", method.getReturnType() == int.class ? 1 : 0, 1);
            for (Class<?> type : method.getParameterTypes()) {
                CHECK.due(name + " takes int", type == int.class ? 1 : 0, 1);
            }
        }
        CHECK.due("methods of the face", listed, FACE.size());
    }
}
