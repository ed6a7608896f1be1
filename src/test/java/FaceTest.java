import java.lang.reflect.Constructor;
import java.lang.reflect.Executable;
import java.lang.reflect.Field;
import java.lang.reflect.Method;
import java.lang.reflect.Modifier;
import java.util.Set;
import java.util.TreeSet;

/** 'The public face': the very members that the document names, with their types and throws clauses. */
final class FaceTest {
    private static final String BOUNDS = "IndexOutOfBoundsException";
    private static final String ARGUMENT = "IllegalArgumentException";
    private static final String STATE = "IllegalStateException";

    private FaceTest() {
    }

    public static void main(String[] args) {
        Check.same("public and final", Intergreen.class.getModifiers(), Modifier.PUBLIC | Modifier.FINAL);
        constants();
        same("members", members(), due());
        Check.end();
    }

    private static void constants() {
        Check.same("NONE", Intergreen.NONE, -1);
        Check.same("RED", Intergreen.RED, 0);
        Check.same("GREEN", Intergreen.GREEN, 1);
        Check.same("AMBER", Intergreen.AMBER, 2);
        Check.same("DARK", Intergreen.DARK, 3);
        Check.same("STOPPED", Intergreen.STOPPED, 0);
        Check.same("CHANGING", Intergreen.CHANGING, 1);
        Check.same("ON", Intergreen.ON, 2);
        Check.same("FLASHING", Intergreen.FLASHING, 3);
    }

    private static Set<String> due() {
        Set<String> due = new TreeSet<>();
        for (String name : "NONE RED GREEN AMBER DARK STOPPED CHANGING ON FLASHING".split(" ")) {
            due.add("public static final int " + name);
        }
        due.add("public Intergreen()");
        add(due, "int phase(int,int,int)", ARGUMENT, STATE);
        add(due, "void meet(int,int,int,int)", BOUNDS, ARGUMENT, STATE);
        add(due, "int stage(int)", ARGUMENT, STATE);
        add(due, "void start(int)", BOUNDS, STATE);
        add(due, "void stop()", STATE);
        add(due, "boolean press(int)", BOUNDS);
        add(due, "int arrive(int,int)", BOUNDS, ARGUMENT, STATE);
        add(due, "void ask(int)", BOUNDS, STATE);
        add(due, "int cancel()", STATE);
        add(due, "boolean breaks(int,int,boolean)", BOUNDS, ARGUMENT);
        add(due, "int go(int)", ARGUMENT, STATE);
        add(due, "int lamp(int,int)", BOUNDS);
        add(due, "int ofPhase(int,int)", BOUNDS, ARGUMENT);
        add(due, "int of(int)", ARGUMENT);
        add(due, "long delay()");
        add(due, "float delayEach()");
        add(due, "int seen(int,int)", BOUNDS, ARGUMENT);
        add(due, "int change(int,int)", BOUNDS);
        add(due, "int round()");
        add(due, "int roundAnew()");
        add(due, "int inRound(int)", BOUNDS);
        return due;
    }

    private static void add(Set<String> due, String method, String... thrown) {
        due.add("public " + method + " throws " + String.join(",", thrown));
    }

    private static Set<String> members() {
        Set<String> found = new TreeSet<>();
        for (Field field : Intergreen.class.getDeclaredFields()) {
            if (!Modifier.isPrivate(field.getModifiers())) {
                found.add(Modifier.toString(field.getModifiers()) + " " + field.getType() + " " + field.getName());
            }
        }
        for (Constructor<?> made : Intergreen.class.getDeclaredConstructors()) {
            found.add(Modifier.toString(made.getModifiers()) + " Intergreen(" + types(made.getParameterTypes()) + ")");
        }
        Set<String> publicNames = new TreeSet<>();
        for (Method method : Intergreen.class.getDeclaredMethods()) {
            if (!Modifier.isPrivate(method.getModifiers())) {
                publicNames.add(method.getName());
                found.add(Modifier.toString(method.getModifiers()) + " " + method.getReturnType() + " "
                    + method.getName() + "(" + types(method.getParameterTypes()) + ") throws " + thrown(method));
            }
        }
        for (Method method : Intergreen.class.getDeclaredMethods()) {
            if (Modifier.isPrivate(method.getModifiers())) {
                Check.same("private " + method.getName() + " bears a public name",
                    publicNames.contains(method.getName()), false);
            }
        }
        return found;
    }

    private static String types(Class<?>[] types) {
        StringBuilder told = new StringBuilder();
        for (Class<?> type : types) {
            told.append(told.length() == 0 ? "" : ",").append(type);
        }
        return told.toString();
    }

    private static String thrown(Executable method) {
        StringBuilder told = new StringBuilder();
        for (Class<?> type : method.getExceptionTypes()) {
            told.append(told.length() == 0 ? "" : ",").append(type.getSimpleName());
        }
        return told.toString();
    }

    private static void same(String told, Set<String> got, Set<String> due) {
        Set<String> more = new TreeSet<>(got);
        more.removeAll(due);
        Set<String> missing = new TreeSet<>(due);
        missing.removeAll(got);
        Check.same(told + ", too many: " + more + ", missing: " + missing, got.equals(due), true);
    }
}
