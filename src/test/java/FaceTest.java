import java.lang.reflect.Constructor;
import java.lang.reflect.Field;
import java.lang.reflect.Method;
import java.lang.reflect.Modifier;
import java.util.Arrays;
import java.util.Set;
import java.util.TreeSet;

/** The public face: just the constants, the constructor and the methods of the document. */
public final class FaceTest {
    private static final Set<String> METHODS = new TreeSet<>(Arrays.asList(
            "task(int,int)", "capacity(int,int)", "precede(int,int,boolean)",
            "times(int,int,int)", "stretch(int,int)", "drop()", "shortest()",
            "leastLateness()", "earliestEnd(int)", "withoutLimits()", "burden(int)",
            "leastCapacity(int)", "critical()"));
    private static final Set<String> CONSTANTS = new TreeSet<>(Arrays.asList(
            "BAD_TASK", "BAD_NUMBER", "FULL", "NONE"));

    public static void main(String[] args) {
        Check.due("BAD_TASK", -1, ProjectSchedule.BAD_TASK);
        Check.due("BAD_NUMBER", -2, ProjectSchedule.BAD_NUMBER);
        Check.due("FULL", -3, ProjectSchedule.FULL);
        Check.due("NONE", -1000, ProjectSchedule.NONE);
        classItself();
        methods();
        fields();
        Check.end();
    }

    private static void classItself() {
        int mods = ProjectSchedule.class.getModifiers();
        Check.holds("the class is public", Modifier.isPublic(mods));
        Check.holds("the class is final", Modifier.isFinal(mods));
        Check.due("nested classes", 0, ProjectSchedule.class.getDeclaredClasses().length);
        Constructor<?>[] made = ProjectSchedule.class.getDeclaredConstructors();
        Check.due("constructors", 1, made.length);
        Check.due("parameters of the constructor", 0, made[0].getParameterCount());
        Check.holds("the constructor is public", Modifier.isPublic(made[0].getModifiers()));
    }

    private static void methods() {
        Set<String> open = new TreeSet<>();
        Set<String> openNames = new TreeSet<>();
        Set<String> hiddenNames = new TreeSet<>();
        for (Method method : ProjectSchedule.class.getDeclaredMethods()) {
            if (Modifier.isPrivate(method.getModifiers())) {
                hiddenNames.add(method.getName());
                continue;
            }
            openNames.add(method.getName());
            open.add(signature(method));
            Check.holds(method + " is public", Modifier.isPublic(method.getModifiers()));
            Check.holds(method + " is not static", !Modifier.isStatic(method.getModifiers()));
            Check.holds(method + " answers an int", method.getReturnType() == int.class);
        }
        Check.holds("the methods are those of the document: " + open, open.equals(METHODS));
        hiddenNames.retainAll(openNames);
        Check.holds("no private method bears a public name: " + hiddenNames, hiddenNames.isEmpty());
    }

    private static void fields() {
        Set<String> open = new TreeSet<>();
        for (Field field : ProjectSchedule.class.getDeclaredFields()) {
            int mods = field.getModifiers();
            if (Modifier.isPrivate(mods)) {
                continue;
            }
            open.add(field.getName());
            Check.holds(field + " is a public constant int", field.getType() == int.class
                    && Modifier.isPublic(mods) && Modifier.isStatic(mods) && Modifier.isFinal(mods));
        }
        Check.holds("the constants are those of the document: " + open, open.equals(CONSTANTS));
    }

    private static String signature(Method method) {
        StringBuilder text = new StringBuilder(method.getName()).append('(');
        String comma = "";
        for (Class<?> type : method.getParameterTypes()) {
            text.append(comma).append(type.getName());
            comma = ",";
        }
        return text.append(')').toString();
    }
}
