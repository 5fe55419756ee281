import java.util.function.Supplier;

/** The boundary cases of promises 22, 25 and 26, and of "Plans". */
public final class PlanEdgesTest {
    private static final int NONE = SkiSchool.NONE, BAD = SkiSchool.BAD, FULL = SkiSchool.FULL;

    public static void main(String[] args) {
        Edges.run(PlanEdgesTest.class);
    }

    private static SkiSchool keeping(String roster, int... families) {
        SkiSchool x = Schools.of(roster);
        for (int f : families) {
            x.setTogether(f, true);
        }
        return x;
    }

    /** The best plan gives these groups to the pupils 0, 1, 2 and so on. */
    private static void plan(String what, SkiSchool x, int... groups) {
        int placed = 0;
        for (int group : groups) {
            placed += group >= 0 ? 1 : 0;
        }
        Check.due(what + ": assign", x.assign(), placed);
        Check.due(what + ": placed", x.placed(), placed);
        for (int n = 0; n < groups.length; n++) {
            Check.due(what + ": group(" + n + ")", x.group(n), groups[n]);
        }
    }

    // ---- Terms: what is valid

    @Edge(promise = 0, says = "A plan gives each pupil a group or none.")
    static void withoutGroups() {
        plan("no groups", Schools.of("p3a;p3a;"), NONE, NONE);
        plan("no pupils", Schools.of("g3a6;g3a6;"));
        Check.due("neither", new SkiSchool().assign(), 0);
    }

    @Edge(promise = 0, says = "It is valid if each pupil who gets a group fits it")
    static void nobodyFits() {
        plan("levels", Schools.of("g3a6;p1a;p5a;p0a;p7a;"), NONE, NONE, NONE, NONE);
        plan("languages", Schools.of("g3a6;g4b6;p3c;p4def;"), NONE, NONE);
        plan("level of one and language of the other", Schools.of("g3a6;g6b6;p3b;p6a;"), NONE, NONE);
    }

    @Edge(promise = 0, says = "if no group gets more pupils than its capacity")
    static void upToTheCapacity() {
        plan("capacity 1", Schools.of("g3a1;p3a;p3a;"), 0, NONE);
        plan("capacity 6", Schools.of("g3a6;" + "p3a;".repeat(7)), 0, 0, 0, 0, 0, 0, NONE);
        plan("the last seat of each", Schools.of("g3a2;g3a1;p3a;p3a;p3a;p3a;"), 0, 0, 1, NONE);
    }

    @Edge(promise = 0, says = "of each family that is kept together either all members get the same group or no member gets a group")
    static void aFamilyAtTheCapacity() {
        plan("six in six seats", keeping("g3a6;" + "p3a/0;".repeat(6), 0), 0, 0, 0, 0, 0, 0);
        plan("seven in six seats", keeping("g3a6;" + "p3a/0;".repeat(7), 0), NONE, NONE, NONE, NONE, NONE, NONE, NONE);
        plan("two in one seat", keeping("g3a1;p3a/7;p3a/7;", 7), NONE, NONE);
        plan("one in one seat", keeping("g3a1;p3a/7;", 7), 0);
    }

    @Edge(promise = 0, says = "of each family that is kept together either all members get the same group or no member gets a group")
    static void aFamilyIsNotSplit() {
        plan("two groups of one", keeping("g3a1;g3a1;p3a/1;p3a/1;", 1), NONE, NONE);
        plan("free it is split", Schools.of("g3a1;g3a1;p3a/1;p3a/1;"), 0, 1);
        plan("three in two and two seats", keeping("g3a2;g3a2;p3a/1;p3a/1;p3a/1;", 1), NONE, NONE, NONE);
    }

    @Edge(promise = 0, says = "or no member gets a group")
    static void oneMemberDoesNotFit() {
        plan("the level of one", keeping("g3a6;p3a/1;p5a/1;p3a;", 1), NONE, NONE, 0);
        plan("the language of one", keeping("g3a6;p3b/1;p3a/1;p3a;", 1), NONE, NONE, 0);
        plan("each fits another group", keeping("g3a6;g5a6;p2a/1;p6a/1;", 1), NONE, NONE);
        plan("both fit the group between", keeping("g3a6;g4a6;p3a/1;p5a/1;", 1), 1, 1);
    }

    @Edge(promise = 0, says = "of each family that is kept together")
    static void familiesThatAreNotOne() {
        plan("pupils without a family", keeping("g3a1;g3a1;p3a;p3a;", 0, 1, 2, 3, 4, 5, 6, 7), 0, 1);
        plan("kept families of one", keeping("g3a1;g3a1;p3a/0;p3a/1;", 0, 1), 0, 1);
        plan("a kept family without members", keeping("g3a1;g3a1;p3a/0;p3a/0;", 7), 0, 1);
    }

    @Edge(promise = 0, says = "of each family that is kept together")
    static void allEightFamilies() {
        String roster = "g3a6;g3a6;g3a6;g3a6;" + "p3a/0;p3a/1;p3a/2;p3a/3;p3a/4;p3a/5;p3a/6;p3a/7;".repeat(2) + "p3a/0;p3a/1;p3a/2;p3a/3;";
        SkiSchool x = keeping(roster, 0, 1, 2, 3, 4, 5, 6, 7);
        int[] due = {0, 0, 1, 1, 2, 2, 2, 3, 0, 0, 1, 1, 2, 2, 2, 3, 0, 0, 1, 1};
        plan("three or two of each", x, due);
    }

    // ---- Terms: what is better

    @Edge(promise = 0, says = "A plan A is better than a plan B if more pupils get a group in A")
    static void oneMorePupilCountsMost() {
        plan("both out of level instead of one in level", Schools.of("g4a1;g5a1;p4a;p3a;"), 1, 0);
        SkiSchool most = Schools.of("g1a6;g2a6;g3a6;g4a2;" + "p1a;".repeat(6) + "p2a;".repeat(6) + "p3a;".repeat(8));
        Check.due("twenty in twenty seats", most.assign(), 20);
        SkiSchool pushed = Schools.of("g1a1;g2a6;g3a6;g4a6;p0a;" + "p1a;".repeat(6) + "p2a;".repeat(6) + "p3a;".repeat(6));
        Check.due("one seat for the lowest moves all others", pushed.assign(), 19);
        Check.due("each of them is out of level", pushed.outOfLevel(), 19);
    }

    @Edge(promise = 0, says = "or if as many do, and fewer pupils are out of level in A")
    static void oneLessOutOfLevelCountsBeforeNumbers() {
        plan("the last pupil is in level", Schools.of("g3a1;p2a;p4a;p3a;"), NONE, NONE, 0);
        plan("the greater groups are in level", Schools.of("g3a2;g4a2;p4a;p4a;p3a;p3a;"), 1, 1, 0, 0);
        plan("a family of two against two alone", keeping("g3a2;p3a;p4a;p3a/1;p3a/1;", 1), NONE, NONE, 0, 0);
    }

    @Edge(promise = 0, says = "A gives the smaller group number to the pupil with the smallest number")
    static void thePupilWithTheSmallestNumberDecides() {
        plan("pupil 0 decides", Schools.of("g3a1;g3a6;p3a;p3a;p3a;p3a;"), 0, 1, 1, 1);
        plan("pupil 0 decides for his family", keeping("g3a2;g3a4;p3a/1;p3a;p3a;p3a;p3a/1;", 1), 0, 1, 1, 1, 0);
        plan("his family fits only the second", keeping("g3a1;g3a4;p3a/1;p3a;p3a;p3a;p3a/1;", 1), 1, 0, 1, 1, 1);
    }

    @Edge(promise = 0, says = "the pupil with the smallest number to whom A and B do not give the same")
    static void theLastPupilDecides() {
        SkiSchool x = Schools.of("g3a6;g3a6;g3a6;g3a6;" + "p3a;".repeat(20));
        int[] due = {0, 0, 0, 0, 0, 0, 1, 1, 1, 1, 1, 1, 2, 2, 2, 2, 2, 2, 3, 3};
        plan("twenty", x, due);
        SkiSchool y = Schools.of("g3a6;g3b6;g3a6;g3b6;" + "p3a;".repeat(6) + "p3b;".repeat(6) + "p3a;".repeat(7) + "p3b;");
        int[] last = {0, 0, 0, 0, 0, 0, 1, 1, 1, 1, 1, 1, 2, 2, 2, 2, 2, 2, NONE, 3};
        plan("the last but one gets none", y, last);
    }

    @Edge(promise = 0, says = "none counts as greater than each group number")
    static void noneIsGreaterThanGroup3() {
        plan("group 3 for the smaller", Schools.of("g0f1;g0f1;g0f1;g3a1;p3a;p3a;"), 3, NONE);
        plan("group 0 for the smaller", Schools.of("g3a1;p3a;p3a;"), 0, NONE);
        plan("none for the smaller, since he does not fit", Schools.of("g3a1;p3b;p3a;p3a;"), NONE, 0, NONE);
    }

    @Edge(promise = 0, says = "none counts as greater than each group number")
    static void aFamilyOrTwoAlone() {
        plan("the alone ones are smaller", keeping("g3a2;p3a;p3a;p3a/0;p3a/0;", 0), 0, 0, NONE, NONE);
        plan("the family has the smallest", keeping("g3a2;p3a/0;p3a;p3a;p3a/0;", 0), 0, NONE, NONE, 0);
        plan("three alone are more", keeping("g3a3;p3a/0;p3a;p3a;p3a/0;p3a;", 0), 0, 0, NONE, 0, NONE);
    }

    @Edge(promise = 0, says = "The best plan is the valid plan that is better than each other valid plan.")
    static void aPlanWithGapsInTheNumbers() {
        SkiSchool x = Schools.of("g3a1;g3a1;g3a1;p3a;p3a;p3a;p3a;");
        x.closeGroup(0);
        x.removePupil(0);
        plan("pupils 1 to 3, groups 1 and 2", x, BAD, 1, 2, NONE);
    }

    // ---- Promise 22: assign

    @Edge(promise = 22, says = "Returns how many pupils have a group then")
    static void assignFromNobodyToAll() {
        Check.due("nobody", Schools.of("g3a6;p5a;").assign(), 0);
        Check.due("one", Schools.of("g3a1;p3a;p3a;").assign(), 1);
        Check.due("twenty in 24 seats", Schools.of("g3a6;".repeat(4) + "p3a;".repeat(20)).assign(), 20);
        Check.due("twenty in four seats", Schools.of("g3a1;".repeat(4) + "p3a;".repeat(20)).assign(), 4);
    }

    @Edge(promise = 22, says = "whatever groups they had before")
    static void assignTakesGroupsAway() {
        SkiSchool x = Schools.assigned("g3a1;p3b;p3a;");
        Check.due("group", x.group(1), 0);
        x.removePupil(0);
        Check.due("addPupil", x.addPupil(3, 1, NONE), 0);
        plan("a smaller one has come", x, 0, NONE);
    }

    @Edge(promise = 22, says = "whatever groups they had before")
    static void assignMovesAllToAnotherGroup() {
        SkiSchool x = Schools.assigned("g3a2;g3a2;p3a;p3a;");
        x.closeGroup(0);
        plan("the group that is left", x, 1, 1);
        x.openGroup(3, 0, 2);
        plan("the smaller number", x, 0, 0);
        Check.due("size", x.size(1), 0);
    }

    @Edge(promise = 22, says = "whatever groups they had before")
    static void assignTwice() {
        SkiSchool x = Schools.busy();
        x.assign();
        long digest = x.digest();
        x.assign();
        Check.due("digest", x.digest(), digest);
    }

    @Edge(promise = 22, says = "The instructors of the groups stay.")
    static void theInstructorOfAGroupThatIsEmptyThen() {
        SkiSchool x = Schools.staffed("g3a1;g4a1;p3a;ia07:5;");
        Check.due("instructor", x.instructor(0), 0);
        x.removePupil(0);
        Schools.add(x, "p5a;");
        plan("the other group", x, 1);
        Check.due("of the empty group", x.instructor(0), 0);
        Check.due("of the other group", x.instructor(1), NONE);
    }

    // ---- Promise 25: extraPlaced

    private static SkiSchool waiting() {
        return Schools.assigned("g7f1;" + "p3abcdef;".repeat(7));
    }

    @Edge(promise = 25, says = "`level`: the level of that group, 0 to 7")
    static void extraPlacedLevels() {
        Twins.range("extraPlaced(level)", PlanEdgesTest::waiting, (x, level) -> x.extraPlaced(level, 0, 2), 0, 7,
            level -> level >= 2 && level <= 4 ? 2 : 0);
    }

    @Edge(promise = 25, says = "`language`: its language, 0 to 5")
    static void extraPlacedLanguages() {
        Twins.range("extraPlaced(language)", PlanEdgesTest::waiting, (x, language) -> x.extraPlaced(3, language, 3), 0, 5,
            language -> 3);
    }

    @Edge(promise = 25, says = "`capacity`: its capacity, 1 to 6")
    static void extraPlacedCapacities() {
        Twins.range("extraPlaced(capacity)", PlanEdgesTest::waiting, (x, capacity) -> x.extraPlaced(3, 0, capacity), 1, 6,
            capacity -> capacity);
    }

    @Edge(promise = 25, says = "BAD if an argument is out of range")
    static void extraPlacedWithSeveralArgumentsOutOfRange() {
        Twins.noTrace("level and language", Schools::busy, x -> x.extraPlaced(8, 6, 1), BAD);
        Twins.noTrace("language and capacity", Schools::busy, x -> x.extraPlaced(0, -1, 7), BAD);
        Twins.noTrace("level and capacity", Schools::busy, x -> x.extraPlaced(-1, 0, 0), BAD);
    }

    @Edge(promise = 25, says = "FULL if there are 4 groups")
    static void extraPlacedWith3And4Groups() {
        Twins.noTrace("3 groups", () -> Schools.of("g0f1;g0f1;g0f1;p3a;p3a;"), x -> x.extraPlaced(3, 0, 6), 2);
        Twins.noTrace("4 groups", () -> Schools.of("g0f1;g0f1;g0f1;g0f1;p3a;p3a;"), x -> x.extraPlaced(3, 0, 6), FULL);
        Twins.noTrace("4 groups", Schools::full, x -> x.extraPlaced(3, 0, 6), FULL);
    }

    @Edge(promise = 25, says = "BAD if an argument is out of range; FULL if there are 4 groups")
    static void extraPlacedIsBadBeforeFull() {
        Twins.noTrace("level", Schools::full, x -> x.extraPlaced(-1, 0, 1), BAD);
        Twins.noTrace("language", Schools::full, x -> x.extraPlaced(0, 6, 1), BAD);
        Twins.noTrace("capacity", Schools::full, x -> x.extraPlaced(0, 0, 7), BAD);
    }

    @Edge(promise = 25, says = "Nothing changes.")
    static void extraPlacedLeavesNoTrace() {
        SkiSchool busy = Schools.busy();
        Twins.noTrace("extraPlaced", Schools::busy, x -> x.extraPlaced(3, 0, 6), busy.extraPlaced(3, 0, 6));
        Twins.noTrace("with a gap in the numbers", () -> closed(0), x -> x.extraPlaced(3, 0, 6), 6);
        Twins.noTrace("with a gap in the numbers", () -> closed(1), x -> x.extraPlaced(3, 0, 6), 6);
        SkiSchool x = closed(1);
        x.extraPlaced(3, 0, 6);
        Check.due("the number is still free", x.openGroup(3, 0, 6), 1);
        Check.due("the group is new", x.size(1), 0);
    }

    private static SkiSchool closed(int group) {
        SkiSchool x = Schools.of("g0f1;g0f1;g0f1;" + "p3a;".repeat(7));
        x.closeGroup(group);
        return x;
    }

    @Edge(promise = 25, says = "how many more pupils would get a group in the best plan if one more group was opened")
    static void extraPlacedFromNobodyToSix() {
        Twins.noTrace("an empty school", SkiSchool::new, x -> x.extraPlaced(0, 0, 1), 0);
        Twins.noTrace("nobody fits", () -> Schools.of("p3a;p3b;"), x -> x.extraPlaced(3, 2, 6), 0);
        Twins.noTrace("all have a group", () -> Schools.of("g3a6;p3a;p3a;"), x -> x.extraPlaced(3, 0, 6), 0);
        Twins.noTrace("one is left", () -> Schools.of("g3a1;p3a;p3a;"), x -> x.extraPlaced(3, 0, 6), 1);
        Twins.noTrace("twenty without a group", () -> Schools.of("p3a;".repeat(20)), x -> x.extraPlaced(3, 0, 6), 6);
    }

    @Edge(promise = 25, says = "minus the number of those in the best plan without it")
    static void extraPlacedDoesNotCountFromTheGroupsNow() {
        Supplier<SkiSchool> notAssigned = () -> Schools.of("g3a2;p3a;p3a;p3a;");
        Twins.noTrace("nobody has a group now", notAssigned, x -> x.extraPlaced(3, 0, 6), 1);
        Supplier<SkiSchool> late = () -> {
            SkiSchool x = Schools.assigned("g3a6;p3a;");
            Schools.add(x, "p3a;p3a;");
            return x;
        };
        Twins.noTrace("two have come since", late, x -> x.extraPlaced(3, 0, 6), 0);
    }

    @Edge(promise = 25, says = "how many more pupils would get a group in the best plan")
    static void extraPlacedWithAFamilyAtTheCapacity() {
        Supplier<SkiSchool> six = () -> keeping("p3a/3;".repeat(6), 3);
        Twins.noTrace("six of six", six, x -> x.extraPlaced(3, 0, 6), 6);
        Twins.noTrace("six in five seats", six, x -> x.extraPlaced(3, 0, 5), 0);
        Twins.noTrace("one does not fit", () -> keeping("p3a/3;p3a/3;p5a/3;", 3), x -> x.extraPlaced(3, 0, 6), 0);
        Twins.noTrace("one does not fit", () -> Schools.of("p3a/3;p3a/3;p5a/3;"), x -> x.extraPlaced(3, 0, 6), 2);
    }

    @Edge(promise = 25, says = "how many more pupils would get a group in the best plan")
    static void extraPlacedMakesOthersMove() {
        Twins.noTrace("one moves up, one follows", () -> Schools.of("g2a1;p2a;p1a;"), x -> x.extraPlaced(3, 0, 1), 1);
        Twins.noTrace("a family moves", () -> keeping("g3a2;p3a/1;p3a/1;p2a;p2a;", 1), x -> x.extraPlaced(4, 0, 2), 2);
    }

    // ---- Promise 26: splitGain

    @Edge(promise = 26, says = "`family`: 0 to 7")
    static void splitGainFamilies() {
        Supplier<SkiSchool> pairs = () -> keeping("g3a1;g3a1;" + "p3a/0;p3a/1;p3a/2;p3a/3;p3a/4;p3a/5;p3a/6;p3a/7;".repeat(2),
            0, 1, 2, 3, 4, 5, 6, 7);
        Twins.range("splitGain", pairs, SkiSchool::splitGain, 0, 7, f -> 2);
        Twins.numbers("splitGain of an empty school", SkiSchool::new, SkiSchool::splitGain, 8, f -> 0);
    }

    @Edge(promise = 26, says = "(0 if the family is free already)")
    static void splitGainOfAFreeFamily() {
        Supplier<SkiSchool> free = () -> keeping("g3a1;g3a1;p3a/0;p3a/0;p3a/1;p3a/1;", 1);
        Twins.noTrace("free", free, x -> x.splitGain(0), 0);
        Twins.noTrace("without members", free, x -> x.splitGain(7), 0);
        Twins.noTrace("free again", () -> {
            SkiSchool x = free.get();
            x.setTogether(1, false);
            return x;
        }, x -> x.splitGain(1), 0);
    }

    @Edge(promise = 26, says = "how many more pupils would get a group in the best plan if a family was free")
    static void splitGainWithoutAGain() {
        Twins.noTrace("without members", () -> keeping("g3a1;p3a;", 4), x -> x.splitGain(4), 0);
        Twins.noTrace("of one member", () -> keeping("g3a1;p3a/4;", 4), x -> x.splitGain(4), 0);
        Twins.noTrace("all have a group", () -> keeping("g3a6;" + "p3a/4;".repeat(6), 4), x -> x.splitGain(4), 0);
        Twins.noTrace("nobody fits", () -> keeping("g3a6;p5a/4;p5a/4;", 4), x -> x.splitGain(4), 0);
        Twins.noTrace("others have the seats", () -> keeping("g3a1;p3a;p3a/4;p3a/4;", 4), x -> x.splitGain(4), 0);
        Twins.noTrace("no groups", () -> keeping("p3a/4;p3a/4;", 4), x -> x.splitGain(4), 0);
    }

    @Edge(promise = 26, says = "how many more pupils would get a group in the best plan if a family was free")
    static void splitGainFromOneToTwenty() {
        Twins.noTrace("one", () -> keeping("g3a1;p3a/4;p3a/4;", 4), x -> x.splitGain(4), 1);
        Twins.noTrace("six of seven", () -> keeping("g3a6;" + "p3a/4;".repeat(7), 4), x -> x.splitGain(4), 6);
        Twins.noTrace("twenty", () -> keeping("g3a6;".repeat(4) + "p3a/7;".repeat(20), 7), x -> x.splitGain(7), 20);
    }

    @Edge(promise = 26, says = "minus the number of those in the best plan as it is")
    static void splitGainKeepsTheOtherFamilies() {
        Supplier<SkiSchool> two = () -> keeping("g3a6;g3a6;" + "p3a/1;p3a/2;".repeat(7), 1, 2);
        Twins.noTrace("seven of one", two, x -> x.splitGain(1), 7);
        Twins.noTrace("seven of the other", two, x -> x.splitGain(2), 7);
        Supplier<SkiSchool> one = () -> keeping("g3a6;g3a6;" + "p3a/1;p3a/2;".repeat(7), 1);
        Twins.noTrace("the other is free: five seats more", one, x -> x.splitGain(1), 5);
    }

    @Edge(promise = 26, says = "minus the number of those in the best plan as it is")
    static void splitGainDoesNotCountFromTheGroupsNow() {
        Supplier<SkiSchool> notAssigned = () -> keeping("g3a2;p3a/1;p3a/1;p3a;", 1);
        Twins.noTrace("nobody has a group now", notAssigned, x -> x.splitGain(1), 0);
    }

    @Edge(promise = 26, says = "Nothing changes.")
    static void splitGainLeavesNoTrace() {
        SkiSchool x = keeping("g3a1;g3a1;p3a/1;p3a/1;", 1);
        Check.due("splitGain", x.splitGain(1), 2);
        Check.due("again", x.splitGain(1), 2);
        Check.due("it is still kept", x.assign(), 0);
        x.setTogether(1, false);
        Check.due("splitGain", x.splitGain(1), 0);
        Check.due("it is still free", x.assign(), 2);
    }

    @Edge(promise = 26, says = "BAD if family is out of range")
    static void splitGainOfABadFamily() {
        Twins.noTrace("-1", Schools::full, x -> x.splitGain(-1), BAD);
        Twins.noTrace("8", Schools::full, x -> x.splitGain(8), BAD);
        Twins.noTrace("NONE", Schools::full, x -> x.splitGain(NONE), BAD);
    }
}
