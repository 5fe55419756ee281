import java.io.IOException;
import java.lang.reflect.Constructor;
import java.lang.reflect.Field;
import java.lang.reflect.Method;
import java.lang.reflect.Modifier;
import java.nio.file.Files;
import java.nio.file.Path;
import java.util.ArrayList;
import java.util.Arrays;
import java.util.List;
import java.util.Set;
import java.util.TreeSet;
import java.util.regex.Pattern;

/** The face of the class, and the rules of ../shared/LANGUAGE.md that can be read off the source. */
public final class FaceTest {
    private static final String[] FACE = {
        "public int addPupil(int, int, int)", "public int removePupil(int)", "public int pupils()",
        "public int level(int)", "public int languages(int)", "public int family(int)", "public int group(int)",
        "public int setTogether(int, boolean)", "public int spread(int)", "public int score(int, int, int)",
        "public int scoreOf(int, int)", "public int setMarks(int, int, int)", "public int grade(int)",
        "public int nextDay()", "public int openGroup(int, int, int)", "public int closeGroup(int)",
        "public int groups()", "public int groupLevel(int)", "public int size(int)", "public int instructor(int)",
        "public int assign()", "public int placed()", "public int outOfLevel()", "public int extraPlaced(int, int, int)",
        "public int splitGain(int)", "public int hire(int, int, int, int)", "public int dismiss(int)",
        "public int instructors()", "public int canTeach(int, int)", "public int staff()", "public int pay(int)",
        "public int earnings(int)", "public int addLift(int, int, int)", "public int addStop(int, int, int)",
        "public int clearStops(int)", "public int setStart(int, int)", "public int simulate(int)",
        "public int waited(int)", "public int rides(int)", "public int longestQueue(int)", "public int carried(int)",
        "public int bestStart(int, int)", "public int type(int)", "public int clearText()", "public int load()",
        "public long digest()"
    };
    /** Words and signs that the rules rule out: exceptions, lambdas, clocks, randomness, threads and other libraries. */
    private static final String[] RULED_OUT = {
        "\\bthrow\\b", "\\bthrows\\b", "\\btry\\b", "\\bcatch\\b", "\\bassert\\b", "\\bsynchronized\\b", "->", "::",
        "Exact\\(", "\\bObject\\b", "\\bMap\\b", "\\bRandom\\b", "\\bThread\\b", "\\bcurrentTimeMillis\\b", "\\bnanoTime\\b",
        "\\bpublic (?!final class SkiSchool|SkiSchool\\(|int |long |static final int )", "\\bprotected\\b",
        "^package", "^import (?!java\\.util\\.Arrays;)", "\\bclass \\w+ (extends|implements)", "\\?\\s*>"
    };
    /** A field's initialiser, or a row that the constructor fills: all calls of a run share one room. */
    private static final String MAKING = " {4,8}(private )?final .* = new .*;| {12}\\w+At\\[n\\] = new \\w+\\(\\);";
    private static final int LONGEST_METHOD = 60;

    public static void main(String[] args) throws IOException {
        face();
        constants();
        nothingElseIsVisible();
        nestedClasses();
        source(Files.readAllLines(Path.of("src/main/java/SkiSchool.java")));
        Check.end();
    }

    private static void face() {
        Set<String> found = new TreeSet<>();
        for (Method m : SkiSchool.class.getDeclaredMethods()) {
            if (!Modifier.isPrivate(m.getModifiers())) {
                String types = Arrays.toString(m.getParameterTypes()).replace("[", "(").replace("]", ")");
                found.add(Modifier.toString(m.getModifiers()) + " " + m.getReturnType() + " " + m.getName() + types);
            }
        }
        Set<String> due = new TreeSet<>(List.of(FACE));
        Check.due("methods of the face", due.size(), FACE.length);
        if (!found.equals(due)) {
            System.out.println("found " + found + ", due " + due);
        }
        Check.holds("the methods are those of the face", found.equals(due));
        Check.due("final and public", SkiSchool.class.getModifiers(), Modifier.PUBLIC | Modifier.FINAL);
    }

    private static void constants() {
        Check.due("BAD", SkiSchool.BAD, -1);
        Check.due("STATE", SkiSchool.STATE, -2);
        Check.due("FULL", SkiSchool.FULL, -3);
        Check.due("NONE", SkiSchool.NONE, -9);
    }

    private static void nothingElseIsVisible() {
        Set<String> visible = new TreeSet<>();
        for (Field f : SkiSchool.class.getDeclaredFields()) {
            if (!Modifier.isPrivate(f.getModifiers())) {
                visible.add(Modifier.toString(f.getModifiers()) + " " + f.getType() + " " + f.getName());
            }
        }
        Check.holds("the visible fields " + visible, visible.equals(Set.of("public static final int BAD",
            "public static final int STATE", "public static final int FULL", "public static final int NONE")));
        Constructor<?>[] constructors = SkiSchool.class.getDeclaredConstructors();
        Check.due("constructors", constructors.length, 1);
        Check.due("public", constructors[0].getModifiers(), Modifier.PUBLIC);
        Check.due("parameters", constructors[0].getParameterCount(), 0);
        Set<String> names = new TreeSet<>();
        for (Method m : SkiSchool.class.getMethods()) {
            names.add(m.getName());
        }
        for (Method m : allMethods()) {
            boolean hidden = !Modifier.isPublic(m.getModifiers());
            Check.holds(m + " bears no public name and has at most seven parameters",
                !(hidden && names.contains(m.getName())) && m.getParameterCount() <= 7);
        }
    }

    private static List<Method> allMethods() {
        List<Method> methods = new ArrayList<>(List.of(SkiSchool.class.getDeclaredMethods()));
        for (Class<?> inside : SkiSchool.class.getDeclaredClasses()) {
            methods.addAll(List.of(inside.getDeclaredMethods()));
        }
        return methods;
    }

    private static void nestedClasses() {
        Class<?>[] inside = SkiSchool.class.getDeclaredClasses();
        Check.holds("at most twelve classes", inside.length < 12);
        for (Class<?> c : inside) {
            Check.holds(c + " is private and static", Modifier.isPrivate(c.getModifiers()) && Modifier.isStatic(c.getModifiers()));
            int fields = 0;
            for (Field f : c.getDeclaredFields()) {
                boolean isStatic = Modifier.isStatic(f.getModifiers());
                fields += isStatic ? 0 : 1;
                Check.holds(f + " is no static state", !isStatic || Modifier.isFinal(f.getModifiers()));
            }
            Check.holds(c + " has at most twenty fields", fields <= 20);
        }
    }

    private static void source(List<String> lines) {
        int length = 0;
        for (String line : lines) {
            Check.holds("ASCII: " + line, line.chars().allMatch(c -> c < 128));
            String code = line.replaceAll("//.*|/\\*.*|^\\s*\\*.*", "");
            for (String word : RULED_OUT) {
                Check.holds("'" + word + "' in: " + line, !Pattern.compile(word).matcher(code).find());
            }
            boolean makes = Pattern.compile("\\bnew\\b|\\bclone\\(|\\bcopyOf").matcher(code).find();
            Check.holds("only a new school makes objects: " + line, !makes || code.matches(MAKING));
            boolean begins = line.matches(" {4,8}(public|private|static|final|int|long|boolean|void|char).*\\) \\{");
            length = begins ? 1 : length + 1;
            boolean ends = line.equals("    }") || line.equals("        }");
            Check.holds("a long method ends at: " + line, !ends || length <= LONGEST_METHOD || line.equals("    }"));
        }
        Check.holds("the source is read", lines.size() > 500);
    }
}
