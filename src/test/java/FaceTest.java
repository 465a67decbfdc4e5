import java.lang.reflect.Constructor;
import java.lang.reflect.Field;
import java.lang.reflect.Method;
import java.lang.reflect.Modifier;
import java.util.Set;
import java.util.TreeSet;

/** The public face: every constant, constructor and method of the document, and no other one that is not private. */
public final class FaceTest {
    private static final String[] CONSTANTS = {
        "BUS = 8", "NONE = -1", "UNBOUNDED = -1", "NO_BOUND_YET = -2", "NOT_ANALYSED = 0", "ADMITTED = 1",
        "REFUSED = 2", "OK = 0", "ERR_FULL = -10", "ERR_NO_TX = -11", "ERR_NO_STEP = -12", "ERR_RESOURCE = -13",
        "ERR_RANGE = -14", "ERR_DUPLICATE = -15", "ERR_INCOMPLETE = -16", "TX_CAPACITY = 8", "MAX_PERIOD = 200",
        "MAX_COST = 20", "MAX_PRIORITY = 100", "MAX_TICKS = 1000", "HORIZON = 100000",
    };
    private static final String[] METHODS = {
        "addTransaction/2", "addStep/4", "setArrivals/3", "analyse/0", "analysisState/0", "stepBound/1",
        "transactionBound/1", "run/1", "now/0", "observedMax/1", "completedCount/1", "overrunCount/1",
        "stepObservedMax/1", "stepRemaining/1", "runningOn/1",
    };

    public static void main(String[] args) throws IllegalAccessException {
        Class<?> type = HolisticRta.class;
        Check.same("the class", Modifier.toString(type.getModifiers()), "public final");
        Check.due("the class has no package", type.getPackageName().isEmpty());
        Check.due("the class extends Object", type.getSuperclass() == Object.class);
        Check.due("interfaces", type.getInterfaces().length, 0);
        Check.due("nested classes", type.getDeclaredClasses().length, 0);
        Check.due("constructors", type.getDeclaredConstructors().length, 1);
        for (Constructor<?> made : type.getDeclaredConstructors()) {
            Check.same("the constructor", made.toString(), "public HolisticRta(int,int)");
        }
        constants(type);
        methods(type);
        Check.end("FaceTest");
    }

    private static void constants(Class<?> type) throws IllegalAccessException {
        Set<String> seen = new TreeSet<>();
        for (Field field : type.getDeclaredFields()) {
            if (Modifier.isPrivate(field.getModifiers())) {
                continue;
            }
            Check.same(field.getName(), Modifier.toString(field.getModifiers()), "public static final");
            Check.due(field.getName() + " is an int", field.getType() == int.class);
            seen.add(field.getName() + " = " + field.getInt(null));
        }
        Check.same("the constants", seen.toString(), new TreeSet<>(Set.of(CONSTANTS)).toString());
    }

    private static void methods(Class<?> type) {
        Set<String> seen = new TreeSet<>();
        for (Method method : type.getDeclaredMethods()) {
            if (Modifier.isPrivate(method.getModifiers())) {
                continue;
            }
            Check.same(method.getName(), Modifier.toString(method.getModifiers()), "public");
            Check.due(method.getName() + " answers an int", method.getReturnType() == int.class);
            for (Class<?> parameter : method.getParameterTypes()) {
                Check.due(method.getName() + " takes an int", parameter == int.class);
            }
            seen.add(method.getName() + "/" + method.getParameterCount());
        }
        Check.same("the methods", seen.toString(), new TreeSet<>(Set.of(METHODS)).toString());
    }
}
