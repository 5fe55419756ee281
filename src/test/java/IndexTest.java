import java.lang.reflect.Field;
import java.lang.reflect.InvocationTargetException;
import java.lang.reflect.Method;

/**
 * LANGUAGE.md, rule 7, "an index is looked at before it is used": the planner doesn't throw even if a
 * number that it keeps for itself is out of its range, which no run of calls brings about.
 */
public final class IndexTest {
    private static final int PUPILS = 20;

    public static void main(String[] args) throws ReflectiveOperationException {
        for (int unit : new int[] {SkiSchool.NONE, -1, PUPILS, PUPILS + 1}) {
            SkiSchool x = full();
            Object[] pupils = (Object[]) read(x, "pupilAt");
            quiet("addHead to unit " + unit, x, "addHead", unit, pupils[0], read(x, "groupAt"));
            stillPlans(x);
        }
        SkiSchool units = full();
        write(read(units, "planner"), "units", PUPILS + 1);
        quiet("limitSeats with 21 units", units, "limitSeats", read(units, "groupAt"));
        quiet("followChoices with 21 units", units, "followChoices");
        stillPlans(units);
        SkiSchool heads = full();
        ((int[]) read(read(heads, "planner"), "heads"))[0] = -1;
        quiet("chooseFor a unit with -1 heads", heads, "chooseFor", 0);
        stillPlans(heads);
        SkiSchool seats = full();
        write(((Object[]) read(seats, "groupAt"))[0], "capacity", -5);
        quiet("findBest with -5 seats", seats, "findBest", read(seats, "pupilAt"), read(seats, "groupAt"), read(seats, "together"));
        Check.end();
    }

    /** All 7 * 7 * 7 * 7 states are in use. */
    private static SkiSchool full() {
        SkiSchool x = Schools.of("g3a6;g3a6;g3a6;g3a6;" + "p3a;".repeat(PUPILS));
        stillPlans(x);
        return x;
    }

    private static void stillPlans(SkiSchool x) {
        Check.due("assign", x.assign(), PUPILS);
        Check.due("size(3)", x.size(3), 2);
    }

    private static Field field(Object of, String name) throws ReflectiveOperationException {
        Field field = of.getClass().getDeclaredField(name);
        field.setAccessible(true);
        return field;
    }

    private static Object read(Object of, String name) throws ReflectiveOperationException {
        return field(of, name).get(of);
    }

    private static void write(Object of, String name, int value) throws ReflectiveOperationException {
        field(of, name).setInt(of, value);
    }

    private static void quiet(String what, SkiSchool x, String method, Object... arguments) throws ReflectiveOperationException {
        Object planner = read(x, "planner");
        for (Method m : planner.getClass().getDeclaredMethods()) {
            if (m.getName().equals(method)) {
                m.setAccessible(true);
                try {
                    m.invoke(planner, arguments);
                    Check.holds(what, true);
                } catch (InvocationTargetException e) {
                    Check.holds(what + " threw " + e.getCause(), false);
                }
                return;
            }
        }
        Check.holds("the planner has " + method, false);
    }
}
