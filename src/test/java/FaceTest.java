import java.lang.reflect.Constructor;
import java.lang.reflect.Field;
import java.lang.reflect.Method;
import java.lang.reflect.Modifier;
import java.util.ArrayList;
import java.util.List;
import java.util.TreeSet;

/** "The public face" of the document, and rule 1 of LANGUAGE.md: this and nothing else is to be seen. */
public final class FaceTest {
    private static final String[] METHODS = {
        "island(fare)", "bridge(one, other, wear)", "send(bridge, force)", "recall(bridge)", "pay(coins)", "days(many)",
        "set(what, value)", "bridgeOf(bridge, what)", "islandOf(island, what)", "reach(island)", "book(ago, what)",
        "why(bridge, what)", "best()", "rustsIn(bridge)", "paintedIn(bridge)", "aloneIn()", "ifDays(many)", "mean()",
        "count(what)", "undo()", "type(character)", "clearText()", "fault(what)", "play()",
    };
    private static final String[] CONSTANTS = {"INVALID_ARGUMENT", "NOT_POSSIBLE", "LIMIT_REACHED", "NOT_FOUND"};

    public static void main(String[] args) {
        theClass();
        theMethods();
        theConstants();
        theConstructor();
        noNameTwice();
        Check.end();
    }

    /** Each call with the names of its arguments, as the document writes them. */
    static List<String> calls() {
        return List.of(METHODS);
    }

    private static void theClass() {
        Check.sentence("public final class CoatedBridges");
        int seen = CoatedBridges.class.getModifiers();
        dueTrue("CoatedBridges is public and final", Modifier.isPublic(seen) && Modifier.isFinal(seen));
        dueTrue("CoatedBridges has no package", CoatedBridges.class.getPackageName().isEmpty());
        dueTrue("CoatedBridges is no other class's kind", CoatedBridges.class.getSuperclass() == Object.class
            && CoatedBridges.class.getInterfaces().length == 0);
    }

    private static void theMethods() {
        Check.sentence("the public methods of the document and no other");
        TreeSet<String> due = new TreeSet<>();
        for (String call : METHODS) {
            due.add("public int " + nameOf(call) + " of " + argumentsOf(call));
        }
        TreeSet<String> got = new TreeSet<>();
        for (Method method : CoatedBridges.class.getDeclaredMethods()) {
            if (isOutside(method.getModifiers(), method.isSynthetic())) {
                got.add(Modifier.toString(method.getModifiers()) + " " + method.getReturnType() + " "
                    + method.getName() + " of " + method.getParameterCount());
                for (Class<?> type : method.getParameterTypes()) {
                    dueTrue("the arguments of " + method.getName() + " are int", type == int.class);
                }
            }
        }
        dueAlike("the methods", got, due);
    }

    private static void theConstants() {
        Check.sentence("the public constants of the document and no other");
        TreeSet<String> due = new TreeSet<>();
        for (String constant : CONSTANTS) {
            due.add("public static final int " + constant);
        }
        TreeSet<String> got = new TreeSet<>();
        for (Field field : CoatedBridges.class.getDeclaredFields()) {
            if (isOutside(field.getModifiers(), field.isSynthetic())) {
                got.add(Modifier.toString(field.getModifiers()) + " " + field.getType() + " " + field.getName());
            }
        }
        dueAlike("the fields", got, due);
    }

    private static void theConstructor() {
        Check.sentence("public CoatedBridges();");
        Constructor<?>[] all = CoatedBridges.class.getDeclaredConstructors();
        Check.due("the constructors", all.length, 1);
        dueTrue("the constructor is public", Modifier.isPublic(all[0].getModifiers()));
        Check.due("the constructor's arguments", all[0].getParameterCount(), 0);
    }

    private static void noNameTwice() {
        Check.sentence("No private method bears the name of a public one.");
        TreeSet<String> face = new TreeSet<>();
        for (String call : METHODS) {
            face.add(nameOf(call));
        }
        List<Class<?>> classes = new ArrayList<>(List.of(CoatedBridges.class.getDeclaredClasses()));
        classes.add(CoatedBridges.class);
        for (Class<?> one : classes) {
            for (Method method : one.getDeclaredMethods()) {
                boolean ofTheFace = one == CoatedBridges.class && Modifier.isPublic(method.getModifiers());
                dueTrue(one.getName() + " has no " + method.getName() + " of its own",
                    ofTheFace || !face.contains(method.getName()));
            }
        }
    }

    private static boolean isOutside(int modifiers, boolean synthetic) {
        return !Modifier.isPrivate(modifiers) && !synthetic;
    }

    private static String nameOf(String call) {
        return call.substring(0, call.indexOf('('));
    }

    private static int argumentsOf(String call) {
        return call.endsWith("()") ? 0 : call.split(",").length;
    }

    private static void dueAlike(String what, TreeSet<String> got, TreeSet<String> due) {
        dueTrue(what + " are " + got + " and should be " + due, got.equals(due));
    }

    private static void dueTrue(String what, boolean holds) {
        Check.due(what, holds ? 1 : 0, 1);
    }
}
