import java.io.IOException;
import java.io.UncheckedIOException;
import java.lang.reflect.InvocationTargetException;
import java.lang.reflect.Method;
import java.nio.file.Files;
import java.nio.file.Path;
import java.util.ArrayList;
import java.util.Comparator;
import java.util.List;
import java.util.Map;
import java.util.TreeMap;

/** Runs the tests of a class that are marked with Edge, and looks their quotations up in the document. */
final class Edges {
    private static final Path DOCUMENT = Path.of("../shared/DOC.md");
    static final int PROMISES = 47;

    private Edges() {
    }

    static void run(Class<?> tests) {
        Map<Integer, String> document = sections();
        List<Method> marked = marked(tests);
        for (Method test : marked) {
            Edge edge = test.getAnnotation(Edge.class);
            Check.begin(tests.getName() + "." + test.getName() + " (" + place(edge) + ")");
            Check.holds("'" + edge.says() + "' stands in the document",
                document.getOrDefault(edge.promise(), "").contains(edge.says()));
            runOne(test);
        }
        System.out.println(marked.size() + " boundary cases");
        Check.end();
    }

    private static String place(Edge edge) {
        return edge.promise() == 0 ? "Terms" : "promise " + edge.promise();
    }

    static List<Method> marked(Class<?> tests) {
        List<Method> marked = new ArrayList<>();
        for (Method m : tests.getDeclaredMethods()) {
            if (m.isAnnotationPresent(Edge.class)) {
                marked.add(m);
            }
        }
        marked.sort(Comparator.comparing((Method m) -> m.getAnnotation(Edge.class).promise()).thenComparing(Method::getName));
        return marked;
    }

    private static void runOne(Method test) {
        int before = Check.seen();
        try {
            test.setAccessible(true);
            test.invoke(null);
        } catch (IllegalAccessException e) {
            Check.holds("can't be called: " + e, false);
        } catch (InvocationTargetException e) {
            Check.holds("ended with " + e.getCause(), false);
        }
        Check.holds("looks at an answer", Check.seen() > before);
    }

    /** The section of each promise by its number, and "Terms" as number 0; each on one line. */
    private static Map<Integer, String> sections() {
        Map<Integer, String> sections = new TreeMap<>();
        int number = -1;
        try {
            for (String line : Files.readAllLines(DOCUMENT)) {
                if (line.startsWith("## ")) {
                    number = line.equals("## Terms") ? 0
                        : line.startsWith("## Promise ") ? Integer.parseInt(line.substring(11, line.indexOf(':'))) : -1;
                }
                sections.merge(number, line, (all, more) -> all + " " + more);
            }
        } catch (IOException e) {
            throw new UncheckedIOException(e);
        }
        return sections;
    }
}
