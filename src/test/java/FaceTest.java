import java.lang.reflect.Constructor;
import java.lang.reflect.Field;
import java.lang.reflect.Method;
import java.lang.reflect.Modifier;
import java.util.TreeSet;

/** The face of the class: what the document tells, and nothing else. */
public final class FaceTest {
    private static final Checks is = new Checks("FaceTest");
    private static final String[] METHODS = {
        "int line(int) IndexOutOfBounds IllegalState",
        "int sign(int,char) IndexOutOfBounds IllegalArgument IllegalState",
        "int rub(int) IndexOutOfBounds",
        "int lines()",
        "char signAt(int,int) IndexOutOfBounds",
        "int kind(int) IndexOutOfBounds",
        "int entries()",
        "int entry(int,int) IndexOutOfBounds IllegalArgument",
        "int property(int,int,boolean) IndexOutOfBounds IllegalArgument",
        "int shift(int,boolean) IndexOutOfBounds IllegalState",
        "int refile(int,int,boolean) IndexOutOfBounds IllegalState",
        "int state(int,int) IndexOutOfBounds IllegalArgument IllegalState",
        "int capture(int,int) IllegalArgument IllegalState",
        "int archive(int) IndexOutOfBounds IllegalState",
        "int bringBack() IllegalState",
        "int today(int) IllegalArgument",
        "int agenda(int,int,int,int) IndexOutOfBounds IllegalArgument",
        "int pass(int) IllegalArgument IllegalState",
        "int clockIn(int) IndexOutOfBounds IllegalState",
        "int clockOut(int) IllegalArgument",
        "int clocked(int) IndexOutOfBounds",
        "int cell(int,int,int,int) IndexOutOfBounds",
        "int run(int) IllegalArgument",
        "int runs()",
        "int link(int,int) IndexOutOfBounds",
        "int renumber()",
        "int exported()",
        "char exportedAt(int,int) IndexOutOfBounds",
    };
    private static final String[] CONSTANTS = {"NONE=-1", "ERROR=1000000", "HEADING=0", "PROPERTY=1", "DATE=2", "CLOCK=3",
        "ROW=4", "CODE=5", "INCLUDE=6", "TEXT=7", "TODO=0", "WAIT=1", "DONE=2", "DROP=3"};

    public static void main(String[] args) {
        is.due("the class", Modifier.PUBLIC | Modifier.FINAL, Outlinery.class::getModifiers);
        methods();
        constants();
        constructors();
        classesInside();
        is.end();
    }

    private static String told(Method method) {
        StringBuilder told = new StringBuilder(method.getReturnType() + " " + method.getName() + "(");
        for (Class<?> type : method.getParameterTypes()) {
            told.append(told.charAt(told.length() - 1) == '(' ? "" : ",").append(type);
        }
        told.append(")");
        for (Class<?> type : method.getExceptionTypes()) {
            told.append(" ").append(type.getSimpleName().replace("Exception", ""));
        }
        return told.toString();
    }

    private static TreeSet<String> publicNames() {
        TreeSet<String> names = new TreeSet<>();
        for (String method : METHODS) {
            names.add(method.substring(method.indexOf(' ') + 1, method.indexOf('(')));
        }
        return names;
    }

    private static void methods() {
        TreeSet<String> found = new TreeSet<>();
        for (Method method : Outlinery.class.getDeclaredMethods()) {
            if (Modifier.isPrivate(method.getModifiers())) {
                is.due("name of private " + method.getName(), false, () -> publicNames().contains(method.getName()));
            } else {
                found.add(told(method));
                is.due("modifiers of " + method.getName(), Modifier.PUBLIC, method::getModifiers);
            }
        }
        is.due("the methods", new TreeSet<>(java.util.List.of(METHODS)), () -> found);
    }

    private static void constants() {
        TreeSet<String> found = new TreeSet<>();
        for (Field field : Outlinery.class.getDeclaredFields()) {
            if (Modifier.isPrivate(field.getModifiers())) {
                continue;
            }
            is.due("modifiers of " + field.getName(), Modifier.PUBLIC | Modifier.STATIC | Modifier.FINAL, field::getModifiers);
            try {
                found.add(field.getName() + "=" + field.getInt(null));
            } catch (IllegalAccessException e) {
                found.add(e.toString());
            }
        }
        is.due("the constants", new TreeSet<>(java.util.List.of(CONSTANTS)), () -> found);
    }

    private static void constructors() {
        Constructor<?>[] found = Outlinery.class.getDeclaredConstructors();
        is.due("how many constructors", 1, () -> found.length);
        is.due("its modifiers", Modifier.PUBLIC, found[0]::getModifiers);
        is.due("its parameters", 0, found[0]::getParameterCount);
        is.due("its exceptions", 0, () -> found[0].getExceptionTypes().length);
    }

    private static void classesInside() {
        for (Class<?> inside : Outlinery.class.getDeclaredClasses()) {
            String name = inside.getSimpleName();
            is.due("static " + name, true, () -> Modifier.isStatic(inside.getModifiers()));
            is.due("not public " + name, false, () -> Modifier.isPublic(inside.getModifiers()));
            is.due("fields of " + name, true, () -> inside.getDeclaredFields().length <= 20);
            for (Method method : inside.getDeclaredMethods()) {
                is.due("name of " + name + "." + method.getName(), false, () -> publicNames().contains(method.getName()));
            }
            for (Field field : inside.getDeclaredFields()) {
                boolean isStatic = Modifier.isStatic(field.getModifiers());
                is.due("a static field, " + name + "." + field.getName(), true,
                    () -> !isStatic || Modifier.isFinal(field.getModifiers()));
            }
        }
    }
}
