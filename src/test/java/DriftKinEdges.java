import java.lang.reflect.InvocationTargetException;
import java.lang.reflect.Method;
import java.lang.reflect.Modifier;
import java.nio.file.Files;
import java.nio.file.Path;
import java.util.Arrays;
import java.util.Comparator;
import java.util.Set;
import java.util.TreeSet;

/** A test for each sentence of the document that names a boundary; each sentence is one of the document's own. */
public final class DriftKinEdges {
    private static final Class<?>[] EDGES =
        {PieceEdges.class, RefusalEdges.class, YearEdges.class, PlankEdges.class, WheelEdges.class};
    private static final Path DOCUMENT = Path.of("../shared/DOC.md");

    private static int tests = 0;
    private static int failed = 0;

    public static void main(String[] args) throws Exception {
        String document = Files.readString(DOCUMENT).replaceAll("\\s+", " ");
        Set<Integer> left = new TreeSet<>();
        for (int promise = 1; promise <= 27; promise++) left.add(promise);
        for (Class<?> edges : EDGES) {
            Method[] methods = edges.getDeclaredMethods();
            Arrays.sort(methods, Comparator.comparing(Method::getName));
            for (Method test : methods) {
                Says says = test.getAnnotation(Says.class);
                if (says == null) continue;
                for (int promise : says.of()) left.remove(promise);
                run(test, says, document);
            }
        }
        if (!left.isEmpty()) System.out.println("promises without a test: " + left);
        System.out.println(failed == 0 ? tests + " edges hold" : failed + " of " + tests + " edges do not hold");
        if (failed != 0 || !left.isEmpty()) System.exit(1);
    }

    private static void run(Method test, Says says, String document) throws IllegalAccessException {
        int before = Edges.wrongs();
        boolean thrown = false;
        try {
            if (!Modifier.isStatic(test.getModifiers())) throw new IllegalStateException(test + " is not static");
            test.setAccessible(true);
            test.invoke(null);
        } catch (InvocationTargetException e) {
            thrown = true;
            System.out.println("  it throws " + e.getCause());
        }
        boolean said = document.contains(says.value());
        if (!said) System.out.println("  not a sentence of the document");
        tests++;
        if (said && !thrown && Edges.wrongs() == before) return;
        failed++;
        System.out.println(test.getDeclaringClass().getSimpleName() + "." + test.getName() + ": " + says.value());
    }
}
