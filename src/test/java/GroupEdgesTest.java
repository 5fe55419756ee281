import java.util.function.Supplier;

/** The boundary cases of promises 16 to 21, 23 and 24, and of "Groups". */
public final class GroupEdgesTest {
    private static final int NONE = SkiSchool.NONE, BAD = SkiSchool.BAD, FULL = SkiSchool.FULL;

    public static void main(String[] args) {
        Edges.run(GroupEdgesTest.class);
    }

    /** Groups of the levels 1, 3, 5 and 7. */
    private static SkiSchool four() {
        return Schools.of("g1a1;g3b2;g5c3;g7d4;");
    }

    /** Group 0 is full, taught, has a programme, starts late and has waited; group 1 waits in the same queue. */
    private static SkiSchool waiting() {
        SkiSchool x = Schools.staffed("g3a6;g5b2;" + "p3a;".repeat(6) + "p5b;p5b;ia07:5;ib07:6;");
        x.addLift(3, 4, 5);
        x.addStop(0, 0, 6);
        x.addStop(0, 0, 7);
        x.addStop(1, 0, 1);
        x.setStart(0, 1);
        x.setStart(1, 2);
        x.simulate(60);
        return x;
    }

    // ---- Terms

    @Edge(promise = 0, says = "The school has at most 4 groups (initially none).")
    static void atMost4Groups() {
        SkiSchool x = new SkiSchool();
        for (int n = 1; n <= 4; n++) {
            Check.holds("group " + n + " is taken", x.openGroup(0, 0, 1) >= 0);
            Check.due("groups", x.groups(), n);
        }
        Check.due("the fifth", x.openGroup(0, 0, 1), FULL);
        Check.due("groups", x.groups(), 4);
    }

    @Edge(promise = 0, says = "A group has a number from 0 to 3")
    static void numbersFrom0To3() {
        SkiSchool x = new SkiSchool();
        for (int n = 0; n < 4; n++) {
            Check.due("openGroup", x.openGroup(0, 0, 1), n);
        }
    }

    @Edge(promise = 0, says = "A new group gets the smallest number that no group has")
    static void theSmallestOfSeveralFreeNumbers() {
        SkiSchool x = four();
        x.closeGroup(3);
        x.closeGroup(0);
        x.closeGroup(2);
        Check.due("openGroup", x.openGroup(4, 0, 1), 0);
        Check.due("openGroup", x.openGroup(5, 0, 1), 2);
        Check.due("openGroup", x.openGroup(6, 0, 1), 3);
        Check.due("openGroup", x.openGroup(7, 0, 1), FULL);
        int[] levels = {4, 3, 5, 6};
        for (int n = 0; n < 4; n++) {
            Check.due("groupLevel", x.groupLevel(n), levels[n]);
        }
    }

    @Edge(promise = 0, says = "A new group gets the smallest number that no group has")
    static void theOnlyNumberIsFreeAgain() {
        SkiSchool x = Schools.of("g3a1;");
        x.closeGroup(0);
        Check.due("openGroup", x.openGroup(3, 0, 1), 0);
        Check.due("openGroup", x.openGroup(3, 0, 1), 1);
    }

    @Edge(promise = 0, says = "it has no pupils, no instructor and an empty programme, and its start minute is 0")
    static void aNumberThatIsFreeAgainBeginsAnew() {
        SkiSchool x = waiting();
        x.closeGroup(0);
        Check.due("openGroup", x.openGroup(3, 0, 6), 0);
        Check.due("size", x.size(0), 0);
        Check.due("instructor", x.instructor(0), NONE);
        Check.due("setStart", x.setStart(0, 9), 0);
        Check.due("clearStops", x.clearStops(0), 0);
    }

    @Edge(promise = 0, says = "it has no pupils, no instructor and an empty programme, and its start minute is 0")
    static void theFirstGroupIsEmpty() {
        SkiSchool x = Schools.of("p3a;ia07:5;g3a6;");
        Check.due("size", x.size(0), 0);
        Check.due("instructor", x.instructor(0), NONE);
        Check.due("clearStops", x.clearStops(0), 0);
        Check.due("setStart", x.setStart(0, 60), 0);
    }

    @Edge(promise = 0, says = "a group is active if its size is at least 1")
    static void activeWithOnePupilAndNotWithNone() {
        SkiSchool x = Schools.staffed("g3a1;p3a;ia07:5;");
        Check.due("size 1", x.pay(1), 5);
        x.removePupil(0);
        Check.due("size 0", x.pay(1), 0);
        Check.due("size 0", x.staff(), 0);
    }

    @Edge(promise = 0, says = "A pupil fits a group if the levels of both differ by at most 1")
    static void eachLevelInEachGroup() {
        for (int level = 0; level <= 7; level++) {
            for (int groupLevel = 0; groupLevel <= 7; groupLevel++) {
                SkiSchool x = Schools.of("g" + groupLevel + "a1;p" + level + "a;");
                Check.due("level " + level + " in " + groupLevel, x.assign(), Math.abs(level - groupLevel) <= 1 ? 1 : 0);
            }
        }
    }

    @Edge(promise = 0, says = "the language of the group belongs to the set of languages of the pupil")
    static void theRightLevelInAnotherLanguage() {
        Check.due("only the other five", Schools.of("g3a1;p3bcdef;").assign(), 0);
        Check.due("only the other five", Schools.of("g3f1;p3abcde;").assign(), 0);
        Check.due("among all six", Schools.of("g3f1;p3abcdef;").assign(), 1);
        Check.due("the right language two levels off", Schools.of("g3f1;p5f;").assign(), 0);
    }

    @Edge(promise = 0, says = "A pupil who is in a group with another level is out of level.")
    static void outOfLevelOneUpAndOneDown() {
        Check.due("one under", Schools.assigned("g3a1;p2a;").outOfLevel(), 1);
        Check.due("the same", Schools.assigned("g3a1;p3a;").outOfLevel(), 0);
        Check.due("one over", Schools.assigned("g3a1;p4a;").outOfLevel(), 1);
        Check.due("without a group", Schools.assigned("g3a1;p5a;").outOfLevel(), 0);
    }

    // ---- Promise 16: openGroup

    @Edge(promise = 16, says = "`level`: 0 to 7")
    static void openGroupLevels() {
        Twins.range("openGroup(level)", Schools::busy, (x, level) -> x.openGroup(level, 0, 1), 0, 7, level -> 3);
        for (int level = 0; level <= 7; level++) {
            Check.due("groupLevel", Schools.of("g" + level + "a1;").groupLevel(0), level);
        }
    }

    @Edge(promise = 16, says = "`language`: 0 to 5")
    static void openGroupLanguages() {
        Twins.range("openGroup(language)", Schools::busy, (x, language) -> x.openGroup(0, language, 1), 0, 5, language -> 3);
    }

    @Edge(promise = 16, says = "`capacity`: 1 to 6")
    static void openGroupCapacities() {
        Twins.range("openGroup(capacity)", Schools::busy, (x, capacity) -> x.openGroup(0, 0, capacity), 1, 6, capacity -> 3);
        for (int capacity = 1; capacity <= 6; capacity++) {
            SkiSchool x = Schools.of("g3a" + capacity + ";" + "p3a;".repeat(7));
            Check.due("assign with capacity " + capacity, x.assign(), capacity);
        }
    }

    @Edge(promise = 16, says = "BAD if an argument is out of range")
    static void openGroupWithSeveralArgumentsOutOfRange() {
        Twins.noTrace("level and language", Schools::busy, x -> x.openGroup(-1, 6, 1), BAD);
        Twins.noTrace("language and capacity", Schools::busy, x -> x.openGroup(0, -1, 0), BAD);
        Twins.noTrace("level and capacity", Schools::busy, x -> x.openGroup(8, 0, 7), BAD);
    }

    @Edge(promise = 16, says = "FULL if there are 4 groups")
    static void openGroupTo3AndTo4() {
        SkiSchool x = four();
        x.closeGroup(1);
        Check.due("to 3", x.openGroup(0, 0, 1), 1);
        Check.due("to 4", x.openGroup(0, 0, 1), FULL);
        Twins.noTrace("to 4", Schools::full, y -> y.openGroup(3, 0, 6), FULL);
    }

    @Edge(promise = 16, says = "BAD if an argument is out of range; FULL if there are 4 groups")
    static void openGroupIsBadBeforeFull() {
        Twins.noTrace("level", Schools::full, x -> x.openGroup(8, 0, 1), BAD);
        Twins.noTrace("language", Schools::full, x -> x.openGroup(0, 6, 1), BAD);
        Twins.noTrace("capacity", Schools::full, x -> x.openGroup(0, 0, 0), BAD);
    }

    // ---- Promise 17: closeGroup

    @Edge(promise = 17, says = "BAD if there is no such group")
    static void closeGroupNumbers() {
        Twins.numbers("closeGroup", GroupEdgesTest::four, SkiSchool::closeGroup, 4, n -> 0);
        Twins.numbers("closeGroup", Schools::busy, SkiSchool::closeGroup, 3, n -> Schools.busy().size(n));
        Twins.numbers("closeGroup of none", SkiSchool::new, SkiSchool::closeGroup, 0, n -> 0);
    }

    @Edge(promise = 17, says = "BAD if there is no such group")
    static void closeGroupTwice() {
        SkiSchool x = four();
        Check.due("closeGroup", x.closeGroup(2), 0);
        Check.due("again", x.closeGroup(2), BAD);
        Check.due("groups", x.groups(), 3);
    }

    @Edge(promise = 17, says = "Returns how many pupils it had")
    static void closeAnEmptyAndAFullGroup() {
        SkiSchool x = Schools.assigned("g3a6;g7a1;" + "p3a;".repeat(7));
        Check.due("empty", x.closeGroup(1), 0);
        Check.due("full", x.closeGroup(0), 6);
        Check.due("placed", x.placed(), 0);
        Check.due("pupils", x.pupils(), 7);
        for (int n = 0; n < 7; n++) {
            Check.due("group", x.group(n), NONE);
        }
    }

    @Edge(promise = 17, says = "Its pupils have no group then")
    static void thePupilsOfOtherGroupsStay() {
        SkiSchool x = Schools.assigned("g3a1;g3a1;g3a1;g3a1;p3a;p3a;p3a;p3a;");
        Check.due("closeGroup", x.closeGroup(2), 1);
        int[] due = {0, 1, NONE, 3};
        for (int n = 0; n < 4; n++) {
            Check.due("group", x.group(n), due[n]);
        }
    }

    @Edge(promise = 17, says = "Its pupils have no group then")
    static void theFirstAndTheLastPupilLeave() {
        SkiSchool x = Schools.assigned("g3b2;g3a6;g3a6;g3a6;p3b;" + "p3a;".repeat(18) + "p3b;");
        Check.due("closeGroup", x.closeGroup(0), 2);
        Check.due("group", x.group(0), NONE);
        Check.due("group", x.group(19), NONE);
        Check.due("the others stay", x.placed(), 18);
    }

    @Edge(promise = 17, says = "its instructor has no group then")
    static void theInstructorOfAClosedGroup() {
        SkiSchool x = waiting();
        Check.due("closeGroup", x.closeGroup(0), 6);
        Check.due("openGroup", x.openGroup(3, 0, 6), 0);
        Check.due("dismiss", x.dismiss(0), NONE);
        Check.due("the other one", x.dismiss(1), 1);
    }

    @Edge(promise = 17, says = "its number is free")
    static void allNumbersAreFreeAfterAllAreClosed() {
        SkiSchool x = four();
        for (int n = 3; n >= 0; n--) {
            x.closeGroup(n);
        }
        Check.due("groups", x.groups(), 0);
        for (int n = 0; n < 4; n++) {
            Check.due("groupLevel", x.groupLevel(n), BAD);
        }
        for (int n = 0; n < 4; n++) {
            Check.due("openGroup", x.openGroup(0, 0, 1), n);
        }
    }

    @Edge(promise = 17, says = "Its kept results of the latest simulation become 0.")
    static void theResultsOfAClosedGroup() {
        SkiSchool x = waiting();
        int waited = x.waited(1);
        int rides = x.rides(1);
        Check.holds("it had results", x.waited(0) > 0 && x.rides(0) > 0 && waited > 0 && rides > 0);
        x.closeGroup(0);
        x.openGroup(3, 0, 6);
        Check.due("waited", x.waited(0), 0);
        Check.due("rides", x.rides(0), 0);
        Check.due("waited of the other", x.waited(1), waited);
        Check.due("rides of the other", x.rides(1), rides);
    }

    @Edge(promise = 17, says = "Closes a group.")
    static void aKeptFamilyLeavesTheClosedGroupAsAWhole() {
        SkiSchool x = Schools.of("g3a2;g3a1;p3a/1;p3a;p3a/1;");
        x.setTogether(1, true);
        x.assign();
        Check.due("closeGroup", x.closeGroup(0), 2);
        Check.due("group", x.group(0), NONE);
        Check.due("group", x.group(1), 1);
        Check.due("nobody leaves any more", x.setTogether(1, true), 0);
    }

    // ---- Promises 18 to 21: groups, groupLevel, size, instructor

    @Edge(promise = 18, says = "Returns how many groups there are.")
    static void groupsOfAnEmptyAndAFullSchool() {
        Twins.noTrace("groups", SkiSchool::new, SkiSchool::groups, 0);
        Twins.noTrace("groups", Schools::full, SkiSchool::groups, 4);
        SkiSchool x = four();
        x.closeGroup(0);
        Check.due("with a gap in the numbers", x.groups(), 3);
    }

    @Edge(promise = 19, says = "BAD if there is no such group")
    static void groupLevelNumbers() {
        Twins.numbers("groupLevel", GroupEdgesTest::four, SkiSchool::groupLevel, 4, n -> 2 * n + 1);
        Twins.numbers("groupLevel of none", SkiSchool::new, SkiSchool::groupLevel, 0, n -> 0);
        SkiSchool x = four();
        x.closeGroup(1);
        Check.due("groupLevel of a closed one", x.groupLevel(1), BAD);
        Check.due("groupLevel of the next", x.groupLevel(2), 5);
    }

    @Edge(promise = 20, says = "BAD if there is no such group")
    static void sizeNumbers() {
        String roster = "g0a1;g2a2;g4a3;g6a6;p0a;p2a;p2a;p4a;p4a;p4a;p6a;p6a;p6a;p6a;p6a;p6a;";
        int[] due = {1, 2, 3, 6};
        Twins.numbers("size", () -> Schools.assigned(roster), SkiSchool::size, 4, n -> due[n]);
        Twins.numbers("size of none", SkiSchool::new, SkiSchool::size, 0, n -> 0);
        SkiSchool x = Schools.assigned(roster);
        x.closeGroup(1);
        Check.due("size of a closed one", x.size(1), BAD);
        Check.due("size of the next", x.size(2), 3);
    }

    @Edge(promise = 20, says = "Returns the number of its pupils")
    static void sizeFromFullToEmpty() {
        SkiSchool x = Schools.assigned("g3a6;" + "p3a;".repeat(7));
        for (int n = 0; n < 6; n++) {
            Check.due("size", x.size(0), 6 - n);
            x.removePupil(n);
        }
        Check.due("size", x.size(0), 0);
    }

    @Edge(promise = 21, says = "BAD if there is no such group")
    static void instructorNumbers() {
        Supplier<SkiSchool> taught = () -> Schools.staffed("g0a1;g2a1;g4a1;g6a1;p0a;p2a;p4a;p6a;ia67:1;ia45:1;ia23:1;ia01:1;");
        Twins.numbers("instructor", taught, SkiSchool::instructor, 4, n -> 3 - n);
        Twins.numbers("instructor of none", SkiSchool::new, SkiSchool::instructor, 0, n -> 0);
        SkiSchool x = taught.get();
        x.closeGroup(1);
        Check.due("instructor of a closed one", x.instructor(1), BAD);
        Check.due("instructor of the next", x.instructor(2), 1);
    }

    @Edge(promise = 21, says = "NONE if it has none")
    static void instructorNoneIsNotInstructor0() {
        SkiSchool x = Schools.assigned("g3a1;p3a;ia07:5;");
        Check.due("before staff", x.instructor(0), NONE);
        x.staff();
        Check.due("after staff", x.instructor(0), 0);
        x.dismiss(0);
        Check.due("after dismiss", x.instructor(0), NONE);
    }

    @Edge(promise = 21, says = "Returns the number of the instructor")
    static void theInstructorWithTheGreatestNumber() {
        SkiSchool x = Schools.staffed("g3a1;p3a;" + "ia07:9;".repeat(7) + "ia07:8;");
        Check.due("instructor", x.instructor(0), 7);
    }

    // ---- Promises 23 and 24: placed, outOfLevel

    @Edge(promise = 23, says = "Returns how many pupils have a group.")
    static void placedFromNobodyToAll() {
        Twins.noTrace("placed", () -> Schools.of("g3a6;p3a;p3a;"), SkiSchool::placed, 0);
        Twins.noTrace("placed", () -> Schools.assigned("g3a6;".repeat(4) + "p3a;".repeat(20)), SkiSchool::placed, 20);
        Twins.noTrace("placed", () -> Schools.assigned("p3a;p3a;"), SkiSchool::placed, 0);
        SkiSchool x = Schools.assigned("g3a6;".repeat(4) + "p3a;".repeat(20));
        x.removePupil(0);
        x.removePupil(19);
        Check.due("placed", x.placed(), 18);
    }

    @Edge(promise = 24, says = "Returns how many pupils are out of level.")
    static void outOfLevelFromNobodyToAll() {
        Twins.noTrace("outOfLevel", () -> Schools.assigned("g3a6;".repeat(4) + "p3a;".repeat(20)), SkiSchool::outOfLevel, 0);
        Twins.noTrace("outOfLevel", () -> Schools.assigned("g3a6;".repeat(4) + "p4a;".repeat(20)), SkiSchool::outOfLevel, 20);
        Twins.noTrace("outOfLevel", () -> Schools.assigned("g3a6;".repeat(4) + "p5a;".repeat(20)), SkiSchool::outOfLevel, 0);
        Twins.noTrace("outOfLevel", () -> Schools.of("g3a6;p4a;"), SkiSchool::outOfLevel, 0);
    }

    @Edge(promise = 24, says = "Returns how many pupils are out of level.")
    static void outOfLevelAfterAGrade() {
        SkiSchool x = Schools.assigned("g3a6;p3a;p4a;p2a;");
        Check.due("outOfLevel", x.outOfLevel(), 2);
        for (int n = 0; n < 3; n++) {
            Check.scores(x, n, 10, 10, 10, 10);
        }
        x.grade(0);
        Check.due("one more", x.outOfLevel(), 3);
        x.grade(1);
        Check.due("one has left the group", x.outOfLevel(), 2);
        x.grade(2);
        Check.due("one is in level now", x.outOfLevel(), 1);
    }

    @Edge(promise = 24, says = "Returns how many pupils are out of level.")
    static void outOfLevelAfterARemoval() {
        SkiSchool x = Schools.assigned("g3a6;p2a;p4a;");
        x.removePupil(1);
        Check.due("outOfLevel", x.outOfLevel(), 1);
        x.closeGroup(0);
        Check.due("outOfLevel", x.outOfLevel(), 0);
    }
}
