import java.util.ArrayList;
import java.util.List;
import java.util.function.Supplier;

/** The section "Errors": every kind of refused call, one after another, in one school. */
public final class ErrorEdgesTest {
    private static final int NONE = SkiSchool.NONE, BAD = SkiSchool.BAD, STATE = SkiSchool.STATE, FULL = SkiSchool.FULL;

    public static void main(String[] args) {
        Edges.run(ErrorEdgesTest.class);
    }

    /** A refused call and the code that is due. */
    private record Refused(String name, Twins.Call call, int code) {
    }

    private static void refuseAll(String school, Supplier<SkiSchool> built, List<Refused> calls) {
        for (Refused each : calls) {
            Check.due(each.name + " alone", each.call.on(built.get()), each.code);
        }
        Twins.noTrace("all refused calls of " + school, built, x -> {
            for (Refused each : calls) {
                Check.due(each.name + " after the others", each.call.on(x), each.code);
            }
            return calls.size();
        }, calls.size());
    }

    private static List<Refused> badCalls() {
        List<Refused> all = new ArrayList<>();
        all.add(new Refused("addPupil", x -> x.addPupil(3, 1, -1), BAD));
        all.add(new Refused("removePupil", x -> x.removePupil(20), BAD));
        all.add(new Refused("level", x -> x.level(20), BAD));
        all.add(new Refused("languages", x -> x.languages(20), BAD));
        all.add(new Refused("family", x -> x.family(20), BAD));
        all.add(new Refused("group", x -> x.group(20), BAD));
        all.add(new Refused("setTogether", x -> x.setTogether(8, true), BAD));
        all.add(new Refused("spread", x -> x.spread(8), BAD));
        all.add(new Refused("score", x -> x.score(0, 0, 11), BAD));
        all.add(new Refused("scoreOf", x -> x.scoreOf(0, 4), BAD));
        all.add(new Refused("setMarks", x -> x.setMarks(10, 1, 11), BAD));
        all.add(new Refused("grade", x -> x.grade(20), BAD));
        all.add(new Refused("openGroup", x -> x.openGroup(3, 0, 7), BAD));
        all.add(new Refused("closeGroup", x -> x.closeGroup(4), BAD));
        all.add(new Refused("groupLevel", x -> x.groupLevel(4), BAD));
        all.add(new Refused("size", x -> x.size(4), BAD));
        all.add(new Refused("instructor", x -> x.instructor(4), BAD));
        all.add(new Refused("extraPlaced", x -> x.extraPlaced(3, 6, 1), BAD));
        all.add(new Refused("splitGain", x -> x.splitGain(8), BAD));
        all.add(new Refused("hire", x -> x.hire(1, 3, 2, 5), BAD));
        all.add(new Refused("dismiss", x -> x.dismiss(8), BAD));
        all.add(new Refused("canTeach", x -> x.canTeach(0, 4), BAD));
        all.add(new Refused("pay", x -> x.pay(101), BAD));
        all.add(new Refused("earnings", x -> x.earnings(8), BAD));
        all.add(new Refused("addLift", x -> x.addLift(1, 1, 21), BAD));
        all.add(new Refused("addStop", x -> x.addStop(0, 0, 21), BAD));
        all.add(new Refused("clearStops", x -> x.clearStops(4), BAD));
        all.add(new Refused("setStart", x -> x.setStart(0, 61), BAD));
        all.add(new Refused("simulate", x -> x.simulate(181), BAD));
        all.add(new Refused("waited", x -> x.waited(4), BAD));
        all.add(new Refused("rides", x -> x.rides(4), BAD));
        all.add(new Refused("longestQueue", x -> x.longestQueue(3), BAD));
        all.add(new Refused("carried", x -> x.carried(3), BAD));
        all.add(new Refused("bestStart", x -> x.bestStart(0, 181), BAD));
        all.add(new Refused("type", x -> x.type(127), BAD));
        return all;
    }

    @Edge(promise = 0, says = "BAD (an argument is out of its range, or there is no pupil, group, instructor or lift with the number)")
    static void allCallsThatAreBad() {
        refuseAll("an empty school", SkiSchool::new, badCalls());
        refuseAll("a busy school", Schools::busy, badCalls());
    }

    @Edge(promise = 0, says = "FULL (there is no room)")
    static void allCallsWithoutRoom() {
        List<Refused> all = new ArrayList<>();
        all.add(new Refused("addPupil", x -> x.addPupil(3, 1, 2), FULL));
        all.add(new Refused("openGroup", x -> x.openGroup(3, 0, 6), FULL));
        all.add(new Refused("extraPlaced", x -> x.extraPlaced(3, 0, 6), FULL));
        all.add(new Refused("hire", x -> x.hire(1, 0, 7, 1), FULL));
        all.add(new Refused("addLift", x -> x.addLift(1, 1, 1), FULL));
        all.add(new Refused("addStop", x -> x.addStop(3, 2, 1), FULL));
        all.add(new Refused("type", x -> x.type(';'), FULL));
        refuseAll("a full school", Schools::full, all);
    }

    @Edge(promise = 0, says = "STATE (the call is not possible now)")
    static void allCallsThatAreNotPossibleNow() {
        List<Refused> all = new ArrayList<>();
        all.add(new Refused("grade without scores", x -> x.grade(0), STATE));
        all.add(new Refused("grade with two scores", x -> x.grade(2), STATE));
        all.add(new Refused("grade on the same day", x -> x.grade(5), STATE));
        all.add(new Refused("staff", SkiSchool::staff, STATE));
        all.add(new Refused("bestStart without a stop", x -> x.bestStart(2, 10), STATE));
        refuseAll("a busy school", () -> {
            SkiSchool x = Schools.busy();
            x.dismiss(2);
            x.dismiss(3);
            Check.scores(x, 5, 9, 9, 9, 9);
            return x;
        }, all);
    }

    @Edge(promise = 0, says = "BAD is returned before STATE, and STATE before FULL")
    static void badBeforeStateAndBeforeFull() {
        refuseAll("a full school", Schools::full, badCalls());
        List<Refused> state = new ArrayList<>();
        state.add(new Refused("bestStart(2, 0)", x -> x.bestStart(2, 0), BAD));
        state.add(new Refused("bestStart(2, 181)", x -> x.bestStart(2, 181), BAD));
        state.add(new Refused("bestStart(2, 180)", x -> x.bestStart(2, 180), STATE));
        refuseAll("a busy school", Schools::busy, state);
    }

    @Edge(promise = 0, says = "NONE is not an error code; it means that there is no such thing.")
    static void noneIsNoNumberOfAnything() {
        List<Refused> all = new ArrayList<>();
        all.add(new Refused("level", x -> x.level(NONE), BAD));
        all.add(new Refused("removePupil", x -> x.removePupil(NONE), BAD));
        all.add(new Refused("setTogether", x -> x.setTogether(NONE, true), BAD));
        all.add(new Refused("spread", x -> x.spread(NONE), BAD));
        all.add(new Refused("splitGain", x -> x.splitGain(NONE), BAD));
        all.add(new Refused("size", x -> x.size(NONE), BAD));
        all.add(new Refused("closeGroup", x -> x.closeGroup(NONE), BAD));
        all.add(new Refused("dismiss", x -> x.dismiss(NONE), BAD));
        all.add(new Refused("earnings", x -> x.earnings(NONE), BAD));
        all.add(new Refused("carried", x -> x.carried(NONE), BAD));
        refuseAll("a busy school", Schools::busy, all);
        SkiSchool x = Schools.of("p3a;g3a1;ia07:1;");
        Check.due("a pupil without a family", x.family(0), NONE);
        Check.due("a pupil without a group", x.group(0), NONE);
        Check.due("a pupil without a score", x.scoreOf(0, 0), NONE);
        Check.due("a family without members", x.spread(0), NONE);
        Check.due("a group without an instructor", x.instructor(0), NONE);
        Check.due("an instructor without a group", x.dismiss(0), NONE);
    }
}
