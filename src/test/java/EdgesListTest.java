import java.io.IOException;
import java.lang.reflect.Method;
import java.nio.file.DirectoryStream;
import java.nio.file.Files;
import java.nio.file.Path;
import java.util.Set;
import java.util.TreeMap;
import java.util.TreeSet;

/** Each promise, and "Terms", has tests of its boundary cases, and each of these tests has a name of its own. */
public final class EdgesListTest {
    public static void main(String[] args) throws IOException, ClassNotFoundException {
        TreeMap<Integer, Integer> cases = new TreeMap<>();
        Set<String> names = new TreeSet<>();
        int all = 0;
        try (DirectoryStream<Path> files = Files.newDirectoryStream(Path.of("src/test/java"), "*EdgesTest.java")) {
            for (Path file : files) {
                String name = file.getFileName().toString().replace(".java", "");
                for (Method test : Edges.marked(Class.forName(name))) {
                    cases.merge(test.getAnnotation(Edge.class).promise(), 1, Integer::sum);
                    names.add(name + "." + test.getName());
                    all++;
                }
            }
        }
        for (int promise = 0; promise <= Edges.PROMISES; promise++) {
            Check.holds("promise " + promise + " (0 is \"Terms\") has boundary cases", cases.getOrDefault(promise, 0) > 0);
        }
        Check.due("names", names.size(), all);
        System.out.println(all + " boundary cases: " + cases);
        Check.end();
    }
}
