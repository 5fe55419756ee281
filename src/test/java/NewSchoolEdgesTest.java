/** The boundary cases of promise 1: the school that is empty in every respect. */
public final class NewSchoolEdgesTest {
    private static final int NONE = SkiSchool.NONE, BAD = SkiSchool.BAD;
    private static final String NEW = "Creates a school without pupils, groups, instructors and lifts, on day 0.";

    public static void main(String[] args) {
        Edges.run(NewSchoolEdgesTest.class);
    }

    @Edge(promise = 1, says = NEW)
    static void noPupils() {
        SkiSchool x = new SkiSchool();
        Check.due("pupils", x.pupils(), 0);
        for (int n = -1; n <= 20; n++) {
            Check.due("level(" + n + ")", x.level(n), BAD);
            Check.due("removePupil(" + n + ")", x.removePupil(n), BAD);
        }
        Check.due("the first number", x.addPupil(0, 1, NONE), 0);
    }

    @Edge(promise = 1, says = NEW)
    static void noGroups() {
        SkiSchool x = new SkiSchool();
        Check.due("groups", x.groups(), 0);
        for (int n = -1; n <= 4; n++) {
            Check.due("groupLevel(" + n + ")", x.groupLevel(n), BAD);
            Check.due("closeGroup(" + n + ")", x.closeGroup(n), BAD);
        }
        Check.due("the first number", x.openGroup(0, 0, 1), 0);
    }

    @Edge(promise = 1, says = NEW)
    static void noInstructors() {
        SkiSchool x = new SkiSchool();
        Check.due("instructors", x.instructors(), 0);
        for (int n = -1; n <= 8; n++) {
            Check.due("earnings(" + n + ")", x.earnings(n), BAD);
            Check.due("dismiss(" + n + ")", x.dismiss(n), BAD);
        }
        Check.due("the first number", x.hire(1, 0, 0, 1), 0);
    }

    @Edge(promise = 1, says = NEW)
    static void noLifts() {
        SkiSchool x = new SkiSchool();
        for (int n = -1; n <= 3; n++) {
            Check.due("longestQueue(" + n + ")", x.longestQueue(n), BAD);
            Check.due("carried(" + n + ")", x.carried(n), BAD);
        }
        Check.due("the first number", x.addLift(1, 1, 1), 0);
    }

    @Edge(promise = 1, says = "on day 0")
    static void onDay0() {
        Check.due("nextDay", new SkiSchool().nextDay(), 1);
    }

    @Edge(promise = 1, says = NEW)
    static void allCallsOfAnEmptySchool() {
        Twins.noTrace("placed", SkiSchool::new, SkiSchool::placed, 0);
        Twins.noTrace("outOfLevel", SkiSchool::new, SkiSchool::outOfLevel, 0);
        Twins.noTrace("assign", SkiSchool::new, SkiSchool::assign, 0);
        Twins.noTrace("staff", SkiSchool::new, SkiSchool::staff, 0);
        Twins.noTrace("pay", SkiSchool::new, x -> x.pay(100), 0);
        Twins.noTrace("simulate", SkiSchool::new, x -> x.simulate(180), 0);
        Twins.noTrace("extraPlaced", SkiSchool::new, x -> x.extraPlaced(0, 0, 6), 0);
        Twins.noTrace("clearText", SkiSchool::new, SkiSchool::clearText, 0);
        Twins.noTrace("load", SkiSchool::new, SkiSchool::load, 0);
    }

    @Edge(promise = 1, says = NEW)
    static void twoSchoolsShareNothing() {
        Schools.full();
        SkiSchool empty = new SkiSchool();
        long digest = empty.digest();
        Schools.full();
        Check.due("digest", empty.digest(), digest);
        Check.due("pupils", empty.pupils(), 0);
        Check.due("setMarks", empty.setMarks(0, 0, 0), 24);
    }

    @Edge(promise = 0, says = "initially all families are free")
    static void allFamiliesAreFree() {
        for (int f = 0; f < 8; f++) {
            SkiSchool x = Schools.of("g3a1;g3a1;p3a/" + f + ";p3a/" + f + ";");
            Check.due("assign with family " + f, x.assign(), 2);
        }
    }

    @Edge(promise = 0, says = "a pass mark (0 to 40, initially 24)")
    static void thePassMarkIs24() {
        Check.due("sum 24", graded(6, 6, 6, 6), 4);
        Check.due("sum 23", graded(6, 6, 6, 5), 3);
        Check.due("setMarks", new SkiSchool().setMarks(1, 1, 1), 24);
    }

    @Edge(promise = 0, says = "a minimum (0 to 10, initially 4)")
    static void theMinimumIs4() {
        Check.due("least score 4", graded(4, 10, 10, 10), 4);
        Check.due("least score 3", graded(3, 10, 10, 10), 3);
    }

    @Edge(promise = 0, says = "a drop mark (0 to the pass mark, initially 8)")
    static void theDropMarkIs8() {
        Check.due("sum 8", graded(2, 2, 2, 2), 3);
        Check.due("sum 7", graded(2, 2, 2, 1), 2);
    }

    private static int graded(int a, int b, int c, int d) {
        SkiSchool x = Schools.of("p3a;");
        Check.scores(x, 0, a, b, c, d);
        return x.grade(0);
    }

    @Edge(promise = 0, says = "initially empty. As a roster")
    static void theTextIsEmpty() {
        SkiSchool x = new SkiSchool();
        Check.due("clearText", x.clearText(), 0);
        Check.due("type", x.type(32), 1);
    }

    @Edge(promise = 0, says = "All of them are 0 at first")
    static void theResultsAre0() {
        SkiSchool x = new SkiSchool();
        for (int n = 0; n < 4; n++) {
            x.openGroup(n, n, 1);
            Check.due("waited(" + n + ")", x.waited(n), 0);
            Check.due("rides(" + n + ")", x.rides(n), 0);
        }
        for (int n = 0; n < 3; n++) {
            x.addLift(1, 1, 1);
            Check.due("longestQueue(" + n + ")", x.longestQueue(n), 0);
            Check.due("carried(" + n + ")", x.carried(n), 0);
        }
    }
}
