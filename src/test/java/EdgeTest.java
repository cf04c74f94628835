import java.lang.reflect.InvocationTargetException;
import java.lang.reflect.Method;
import java.nio.charset.StandardCharsets;
import java.nio.file.Files;
import java.nio.file.Path;
import java.util.Map;
import java.util.TreeMap;

/**
 * Runs every boundary case: the methods that bear words of the document. A case is named by its
 * promise, its call and what happens there; the document is the second argument.
 */
public final class EdgeTest extends Bench {
    private static final Class<?>[] CASES = {
        EdgesOfLoaves.class, EdgesOfKilns.class, EdgesOfBaking.class, EdgesOfFees.class,
        EdgesOfActs.class, EdgesOfTapes.class, EdgesOfRefusals.class,
    };
    private static final int PROMISES = 35;

    private static final int[] casesOf = new int[PROMISES + 1];

    public static void main(String[] args) throws Exception {
        String document = folded(new String(Files.readAllBytes(Path.of(args[1])), StandardCharsets.UTF_8));
        int all = 0;
        for (Class<?> cases : CASES) {
            for (Map.Entry<String, Method> one : ordered(cases).entrySet()) {
                run(one.getKey(), one.getValue(), document);
                all++;
            }
        }
        title = "the boundary cases";
        for (int promise = 1; promise <= PROMISES; promise++) {
            check.holds("promise " + promise + " has some", casesOf[promise] > 0);
        }
        System.out.println(all + " boundary cases");
        check.close();
    }

    private static void run(String name, Method one, String document) throws Exception {
        title = "the name " + name;
        check.holds(title + " tells promise, call and case", name.matches("p(0[1-9]|[12][0-9]|3[0-5])_[a-z]+_\\w+"));
        casesOf[Integer.parseInt(name.substring(1, 3))]++;
        for (String words : one.getAnnotation(Says.class).value()) {
            check.holds(name + " holds to words of the document: " + words, document.contains(folded(words)));
        }
        title = name;
        int before = check.looks();
        try {
            one.invoke(null);
        } catch (InvocationTargetException thrown) {
            check.holds(name + " throws nothing, but threw " + thrown.getCause(), false);
        }
        check.holds(name + " looks at something", check.looks() > before);
    }

    private static Map<String, Method> ordered(Class<?> cases) {
        Map<String, Method> byName = new TreeMap<>();
        for (Method method : cases.getDeclaredMethods()) {
            if (method.isAnnotationPresent(Says.class)) {
                byName.put(method.getName(), method);
            }
        }
        return byName;
    }

    private static String folded(String text) {
        return text.replaceAll("\\s+", " ");
    }
}
