import java.util.Arrays;
import java.util.List;
import java.util.function.Supplier;

/** Two schools that are built alike show whether a call on one of them has left a trace. */
final class Twins {
    /** Of a wide range only this many values, and the last one, are tried. */
    private static final int MOST_TRIED = 100;

    private Twins() {
    }

    /** A call on a school. */
    interface Call {
        long on(SkiSchool x);
    }

    /** A call on a school in which one argument is chosen. */
    interface CallWith {
        long on(SkiSchool x, int value);
    }

    /** The answer that is due for a value. */
    interface Wanted {
        long of(int value);
    }

    /** The call answers what is due, and after it all calls answer as if it had not been made. */
    static void noTrace(String call, Supplier<SkiSchool> built, Call made, long due) {
        SkiSchool touched = built.get();
        Check.due(call, made.on(touched), due);
        List<Long> after = Probe.of(touched);
        List<Long> without = Probe.of(built.get());
        int same = 0;
        while (same < without.size() && after.get(same).equals(without.get(same))) {
            same++;
        }
        Check.due("after " + call + ": how many answers of the probe are the same", same, without.size());
    }

    /** Each value from first to last is answered as due; those beyond, on both sides, are BAD and leave no trace. */
    static void range(String call, Supplier<SkiSchool> built, CallWith made, int first, int last, Wanted due, int... alsoTaken) {
        for (int value = first; value <= last; value = next(value, first, last)) {
            Check.due(call + " with " + value, made.on(built.get(), value), due.of(value));
        }
        for (int value : alsoTaken) {
            Check.due(call + " with " + value, made.on(built.get(), value), due.of(value));
        }
        int none = SkiSchool.NONE;
        int[] beyond = {first - 1, last + 1, none - 1, none, none + 1, Integer.MIN_VALUE, Integer.MAX_VALUE};
        for (int value : beyond) {
            if (Arrays.stream(alsoTaken).noneMatch(taken -> taken == value)) {
                noTrace(call + " with " + value, built, x -> made.on(x, value), SkiSchool.BAD);
            }
        }
    }

    private static int next(int value, int first, int last) {
        return value - first >= MOST_TRIED && value < last ? last : value + 1;
    }

    /** Of count things, numbered from 0, each number is taken; all others are BAD and leave no trace. */
    static void numbers(String call, Supplier<SkiSchool> built, CallWith made, int count, Wanted due) {
        range(call, built, made, 0, count - 1, due);
    }
}
