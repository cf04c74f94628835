import java.lang.reflect.Constructor;
import java.lang.reflect.Field;
import java.lang.reflect.Method;
import java.lang.reflect.Modifier;
import java.util.ArrayList;
import java.util.Arrays;
import java.util.HashSet;
import java.util.List;
import java.util.Set;

/** The face is the document's and no more. */
public final class FaceTest {
    private static final String[] METHODS = {
        "int loaf(int, int)", "int set(int, int, int, int)", "int of(int, int)", "int oven(int, int)",
        "int feed(int)", "int kiln()", "int told(int)", "int bake(int)", "int cold()",
        "int would(int, int, int)", "int order(int, int)", "int colds(int, int)", "int place(int, int)",
        "int guilty(int)", "int two(int)", "int has(int)", "int swaps(int)",
        "int span(int, int, int, int)", "int year(int, int, int)", "long odds(int, int)",
        "long mean(int, int)", "int book(int, boolean)", "int looked()", "int judge(int, int)",
        "int image()", "int undo()", "int act(int, int, int)", "int trace(int)", "int taken(int, int)",
        "int count(int)", "int tape(int, int, int)", "int item(int, int, long)", "long read(int, int)",
        "int shift(int, int, int, int, int)",
    };
    private static final String[] CONSTANTS = {"int NONE", "int BAD", "int STATE", "int FULL", "long NO"};

    private static final Check check = new Check();

    public static void main(String[] args) {
        Class<?> face = BakedBefore.class;
        check.same("the class's modifiers", face.getModifiers(), Modifier.PUBLIC | Modifier.FINAL);
        check.holds("no class above it", face.getSuperclass() == Object.class && face.getInterfaces().length == 0);
        methods(face);
        constructors(face);
        fields(face);
        classes(face);
        check.close();
    }

    private static void methods(Class<?> face) {
        Set<String> due = new HashSet<>(Arrays.asList(METHODS));
        Set<String> names = new HashSet<>();
        for (String method : METHODS) {
            names.add(method.substring(method.indexOf(' ') + 1, method.indexOf('(')));
        }
        for (Method method : face.getDeclaredMethods()) {
            List<String> types = new ArrayList<>();
            for (Class<?> type : method.getParameterTypes()) {
                types.add(type.getName());
            }
            String told = method.getReturnType().getName() + " " + method.getName()
                + "(" + String.join(", ", types) + ")";
            if (Modifier.isPrivate(method.getModifiers())) {
                check.holds("no private method with a public one's name: " + told, !names.contains(method.getName()));
            } else {
                check.holds("a method of the document: " + told, due.remove(told));
                check.same("modifiers of " + told, method.getModifiers(), Modifier.PUBLIC);
            }
        }
        check.holds("no method is missing: " + due, due.isEmpty());
    }

    private static void constructors(Class<?> face) {
        Constructor<?>[] all = face.getDeclaredConstructors();
        check.same("constructors", all.length, 1);
        check.same("its modifiers", all[0].getModifiers(), Modifier.PUBLIC);
        check.same("its parameters", all[0].getParameterCount(), 0);
    }

    private static void fields(Class<?> face) {
        Set<String> due = new HashSet<>(Arrays.asList(CONSTANTS));
        for (Field field : face.getDeclaredFields()) {
            String told = field.getType().getName() + " " + field.getName();
            if (!Modifier.isPrivate(field.getModifiers())) {
                check.holds("a constant of the document: " + told, due.remove(told));
                check.same("modifiers of " + told, field.getModifiers(),
                    Modifier.PUBLIC | Modifier.STATIC | Modifier.FINAL);
            }
        }
        check.holds("no constant is missing: " + due, due.isEmpty());
    }

    private static void classes(Class<?> face) {
        check.holds("some twelve classes at most", face.getDeclaredClasses().length <= 12);
        for (Class<?> inside : face.getDeclaredClasses()) {
            check.holds(inside + " is static", Modifier.isStatic(inside.getModifiers()));
            check.holds(inside + " is not public", !Modifier.isPublic(inside.getModifiers()));
            int own = 0;
            for (Field field : inside.getDeclaredFields()) {
                boolean isStatic = Modifier.isStatic(field.getModifiers());
                own += isStatic ? 0 : 1;
                check.holds(field + " is no static state", !isStatic || Modifier.isFinal(field.getModifiers()));
            }
            check.holds(inside + " has some twenty fields at most", own <= 20);
        }
    }
}
