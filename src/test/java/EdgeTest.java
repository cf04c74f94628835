import java.lang.reflect.InvocationTargetException;
import java.lang.reflect.Method;
import java.nio.charset.StandardCharsets;
import java.nio.file.Files;
import java.nio.file.Path;
import java.util.Map;
import java.util.TreeMap;

/**
 * Runs every boundary case, a method each: named by its promise, by what it is of and by what happens
 * there, and bearing the words of the document that it holds to. The document is the second argument.
 */
public final class EdgeTest extends Bench {
    private static final Class<?>[] CASES = {
        EdgesOfLoaves.class, EdgesOfKilns.class, EdgesOfBaking.class, EdgesOfFees.class,
        EdgesOfActs.class, EdgesOfTapes.class, EdgesOfRefusals.class,
    };
    private static final int PROMISES = 35;

    private static final int[] casesOf = new int[PROMISES + 1];

    public static void main(String[] args) throws Exception {
        String document = folded(new String(Files.readAllBytes(Path.of(args[1])), StandardCharsets.UTF_8));
        int all = 0;
        for (Class<?> cases : CASES) {
            for (Map.Entry<String, Method> one : ordered(cases).entrySet()) {
                run(one.getKey(), one.getValue(), document);
                all++;
            }
        }
        title = "the boundary cases";
        for (int promise = 1; promise <= PROMISES; promise++) {
            check.holds("promise " + promise + " has some", casesOf[promise] > 0);
        }
        System.out.println(all + " boundary cases");
        check.close();
    }

    private static void run(String name, Method one, String document) throws Exception {
        boolean told = name.matches("p(0[1-9]|[12][0-9]|3[0-5])_[a-z]+_\\w+") && one.isAnnotationPresent(Says.class);
        check.holds(name + " tells promise, call and case, and the document's words", told);
        if (!told) {
            return;
        }
        casesOf[Integer.parseInt(name.substring(1, 3))]++;
        for (String words : one.getAnnotation(Says.class).value()) {
            check.holds(name + " holds to words of the document: " + words, document.contains(folded(words)));
        }
        title = name;
        int before = check.looks();
        try {
            one.invoke(null);
        } catch (InvocationTargetException thrown) {
            check.holds(name + " throws nothing, but threw " + thrown.getCause(), false);
        }
        check.holds(name + " looks at something", check.looks() > before);
    }

    private static Map<String, Method> ordered(Class<?> cases) {
        Map<String, Method> byName = new TreeMap<>();
        for (Method method : cases.getDeclaredMethods()) {
            if (method.getName().matches("p\\d+_.*") || method.isAnnotationPresent(Says.class)) {
                byName.put(method.getName(), method);
            }
        }
        return byName;
    }

    private static String folded(String text) {
        return text.replaceAll("\\s+", " ");
    }
}
