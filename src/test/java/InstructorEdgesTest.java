import java.util.function.Supplier;

/** The boundary cases of promises 27 to 33, and of "Instructors". */
public final class InstructorEdgesTest {
    private static final int NONE = SkiSchool.NONE, BAD = SkiSchool.BAD, STATE = SkiSchool.STATE, FULL = SkiSchool.FULL;
    private static final String FOUR_ACTIVE = "g0a1;g2a1;g4a1;g6a1;p0a;p2a;p4a;p6a;";

    public static void main(String[] args) {
        Edges.run(InstructorEdgesTest.class);
    }

    private static SkiSchool eight() {
        return Schools.of("ia07:1;ia07:2;ia07:3;ia07:4;ia07:5;ia07:6;ia07:7;ia07:8;");
    }

    /** The best staffing gives these instructors to the groups 0, 1, 2 and so on. */
    private static void staffing(String what, SkiSchool x, int cost, int... instructors) {
        Check.due(what + ": staff", x.staff(), cost);
        for (int n = 0; n < instructors.length; n++) {
            Check.due(what + ": instructor(" + n + ")", x.instructor(n), instructors[n]);
        }
    }

    // ---- Terms

    @Edge(promise = 0, says = "The school has at most 8 instructors (initially none).")
    static void atMost8Instructors() {
        SkiSchool x = new SkiSchool();
        for (int n = 1; n <= 8; n++) {
            Check.holds("instructor " + n + " is taken", x.hire(1, 0, 0, 1) >= 0);
            Check.due("instructors", x.instructors(), n);
        }
        Check.due("the ninth", x.hire(1, 0, 0, 1), FULL);
        Check.due("instructors", x.instructors(), 8);
    }

    @Edge(promise = 0, says = "An instructor has a number from 0 to 7")
    static void numbersFrom0To7() {
        SkiSchool x = new SkiSchool();
        for (int n = 0; n < 8; n++) {
            Check.due("hire", x.hire(1, 0, 0, 1), n);
        }
    }

    @Edge(promise = 0, says = "A new instructor gets the smallest number that no instructor has.")
    static void theSmallestOfSeveralFreeNumbers() {
        SkiSchool x = eight();
        x.dismiss(7);
        x.dismiss(0);
        x.dismiss(4);
        x.dismiss(3);
        Check.due("hire", x.hire(1, 0, 0, 1), 0);
        Check.due("hire", x.hire(1, 0, 0, 1), 3);
        Check.due("hire", x.hire(1, 0, 0, 1), 4);
        Check.due("hire", x.hire(1, 0, 0, 1), 7);
        Check.due("hire", x.hire(1, 0, 0, 1), FULL);
    }

    @Edge(promise = 0, says = "A new instructor gets the smallest number that no instructor has.")
    static void theOnlyNumberIsFreeAgain() {
        SkiSchool x = Schools.of("ia07:5;");
        x.dismiss(0);
        Check.due("hire", x.hire(1, 0, 0, 1), 0);
        Check.due("hire", x.hire(1, 0, 0, 1), 1);
    }

    @Edge(promise = 0, says = "and earnings, which are 0 at first")
    static void aNumberThatIsFreeAgainHasNoEarnings() {
        SkiSchool x = Schools.staffed("g3a1;p3a;ia07:5;");
        x.pay(100);
        Check.due("earnings", x.earnings(0), 500);
        x.dismiss(0);
        Schools.add(x, "ia07:5;");
        Check.due("earnings", x.earnings(0), 0);
        Check.due("no group either", x.instructor(0), NONE);
    }

    @Edge(promise = 0, says = "the level of the group is at least the lowest and at most the highest level of the instructor")
    static void eachLevelAndEachRange() {
        for (int level = 0; level <= 7; level++) {
            for (int lowest = 0; lowest <= 7; lowest++) {
                for (int highest = lowest; highest <= 7; highest++) {
                    SkiSchool x = Schools.of("g" + level + "a1;ia" + lowest + highest + ":1;");
                    Check.due(lowest + " to " + highest + " at level " + level, x.canTeach(0, 0),
                        level >= lowest && level <= highest ? 1 : 0);
                }
            }
        }
    }

    @Edge(promise = 0, says = "the language of the group belongs to the set of languages of the instructor")
    static void eachLanguageOnItsOwn() {
        for (int language = 0; language < 6; language++) {
            SkiSchool x = new SkiSchool();
            x.openGroup(3, language, 1);
            for (int other = 0; other < 6; other++) {
                x.hire(1 << other, 0, 7, 1);
                Check.due("language " + other, x.canTeach(other, 0), other == language ? 1 : 0);
            }
            Check.due("hire", x.hire(63 - (1 << language), 0, 7, 1), 6);
            Check.due("all but language " + language, x.canTeach(6, 0), 0);
            Check.due("hire", x.hire(63, 0, 7, 1), 7);
            Check.due("all", x.canTeach(7, 0), 1);
        }
    }

    @Edge(promise = 0, says = "An instructor has at most one group.")
    static void oneInstructorForTwoGroups() {
        Supplier<SkiSchool> two = () -> Schools.assigned("g3a1;g3a1;p3a;p3a;ia07:5;");
        Twins.noTrace("staff", two, SkiSchool::staff, STATE);
        SkiSchool x = two.get();
        Schools.add(x, "ia07:999999;");
        staffing("a second one", x, 1000004, 0, 1);
    }

    @Edge(promise = 0, says = "A staffing gives each active group an instructor who can teach it")
    static void oneLanguageOrLevelShort() {
        Supplier<SkiSchool> level = () -> Schools.assigned("g3a1;p3a;ia02:5;ia47:5;ibcdef07:5;");
        Twins.noTrace("staff", level, SkiSchool::staff, STATE);
        SkiSchool x = level.get();
        Schools.add(x, "ia33:7;");
        staffing("just the one who can", x, 7, 3);
    }

    @Edge(promise = 0, says = "The best staffing is the one with the least cost")
    static void oneCheaperOrTheSame() {
        staffing("one cheaper", Schools.assigned("g3a1;p3a;ia07:6;ia07:5;"), 5, 1);
        staffing("the same", Schools.assigned("g3a1;p3a;ia07:5;ia07:5;"), 5, 0);
        staffing("the cheapest is number 7", Schools.assigned("g3a1;p3a;" + "ia07:2;".repeat(7) + "ia07:1;"), 1, 7);
        staffing("the dearest are the only ones", Schools.assigned(FOUR_ACTIVE + "ia07:999999;".repeat(4)), 3999996, 0, 1, 2, 3);
        staffing("the sum counts", Schools.assigned("g3a1;g3b1;p3a;p3b;iab07:1;ia07:3;ib07:9;"), 4, 1, 0);
    }

    @Edge(promise = 0, says = "the one that gives the instructor with the smaller number to the active group with the smallest number")
    static void theSmallestGroupDecides() {
        staffing("all the same", Schools.assigned(FOUR_ACTIVE + "ia07:5;".repeat(8)), 20, 0, 1, 2, 3);
        staffing("group 0 takes 0, group 1 the last", Schools.assigned("g3a1;g3b1;p3a;p3b;iab07:5;ia07:5;ib07:5;"), 10, 0, 2);
        staffing("group 0 cannot have 0", Schools.assigned("g3a1;g3b1;p3a;p3b;ib07:5;iab07:5;ia07:5;"), 10, 1, 0);
        staffing("two orders of the same two", Schools.assigned("g3a1;g3b1;p3a;p3b;iab07:7;iab07:3;"), 10, 0, 1);
    }

    @Edge(promise = 0, says = "the active group with the smallest number to which they do not give the same one")
    static void theLastGroupDecides() {
        staffing("group 3", Schools.assigned(FOUR_ACTIVE + "ia01:5;ia23:5;ia45:5;ib67:5;ia67:5;ia67:5;"), 20, 0, 1, 2, 4);
    }

    // ---- Promise 27: hire

    @Edge(promise = 27, says = "`languages`: a set of languages, 1 to 63")
    static void hireLanguages() {
        Twins.range("hire(languages)", Schools::busy, (x, set) -> x.hire(set, 0, 7, 5), 1, 63, set -> 4);
    }

    @Edge(promise = 27, says = "`lowest`: the lowest level, 0 to 7")
    static void hireLowest() {
        Twins.range("hire(lowest, 7)", Schools::busy, (x, lowest) -> x.hire(1, lowest, 7, 5), 0, 7, lowest -> 4);
        Twins.noTrace("hire(8, 8)", Schools::busy, x -> x.hire(1, 8, 8, 5), BAD);
        Twins.noTrace("hire(-1, -1)", Schools::busy, x -> x.hire(1, -1, -1, 5), BAD);
    }

    @Edge(promise = 27, says = "`highest`: the highest level, lowest to 7")
    static void hireHighest() {
        for (int lowest = 0; lowest <= 7; lowest++) {
            int from = lowest;
            Twins.range("hire(" + from + ", highest)", Schools::busy, (x, highest) -> x.hire(1, from, highest, 5), from, 7, h -> 4);
        }
    }

    @Edge(promise = 27, says = "`wage`: the wage per hour, 1 to 999999")
    static void hireWages() {
        Twins.range("hire(wage)", Schools::busy, (x, wage) -> x.hire(1, 0, 7, wage), 1, 999999, wage -> 4);
        staffing("the lowest", Schools.assigned("g3a1;p3a;ia07:1;"), 1, 0);
        staffing("the highest", Schools.assigned("g3a1;p3a;ia07:999999;"), 999999, 0);
    }

    @Edge(promise = 27, says = "BAD if an argument is out of range")
    static void hireWithSeveralArgumentsOutOfRange() {
        Twins.noTrace("languages and wage", Schools::busy, x -> x.hire(0, 0, 7, 0), BAD);
        Twins.noTrace("lowest and highest", Schools::busy, x -> x.hire(1, 9, 8, 5), BAD);
        Twins.noTrace("highest and wage", Schools::busy, x -> x.hire(1, 3, 2, 1000000), BAD);
        Twins.noTrace("all", Schools::busy, x -> x.hire(64, -1, 8, 0), BAD);
    }

    @Edge(promise = 27, says = "FULL if there are 8 instructors")
    static void hireTo7AndTo8() {
        SkiSchool x = eight();
        x.dismiss(5);
        Check.due("to 7", x.hire(1, 0, 7, 1), 5);
        Check.due("to 8", x.hire(1, 0, 7, 1), FULL);
        Twins.noTrace("to 8", Schools::full, y -> y.hire(1, 0, 7, 1), FULL);
    }

    @Edge(promise = 27, says = "BAD if an argument is out of range; FULL if there are 8 instructors")
    static void hireIsBadBeforeFull() {
        Twins.noTrace("languages", Schools::full, x -> x.hire(64, 0, 7, 1), BAD);
        Twins.noTrace("lowest", Schools::full, x -> x.hire(1, -1, 7, 1), BAD);
        Twins.noTrace("highest", Schools::full, x -> x.hire(1, 5, 4, 1), BAD);
        Twins.noTrace("wage", Schools::full, x -> x.hire(1, 0, 7, 0), BAD);
    }

    // ---- Promise 28: dismiss

    @Edge(promise = 28, says = "BAD if there is no such instructor")
    static void dismissNumbers() {
        Twins.numbers("dismiss", InstructorEdgesTest::eight, SkiSchool::dismiss, 8, n -> NONE);
        Supplier<SkiSchool> taught = () -> Schools.staffed(FOUR_ACTIVE + "ia67:1;ia45:1;ia23:1;ia01:1;ib07:1;");
        Twins.numbers("dismiss", taught, SkiSchool::dismiss, 5, n -> n < 4 ? 3 - n : NONE);
        Twins.numbers("dismiss of none", SkiSchool::new, SkiSchool::dismiss, 0, n -> 0);
    }

    @Edge(promise = 28, says = "BAD if there is no such instructor")
    static void dismissTwice() {
        SkiSchool x = Schools.staffed("g3a1;p3a;ia07:5;ia07:6;");
        Check.due("dismiss", x.dismiss(0), 0);
        Check.due("again", x.dismiss(0), BAD);
        Check.due("instructors", x.instructors(), 1);
    }

    @Edge(promise = 28, says = "A group that had this instructor has none then.")
    static void theGroupOfADismissedInstructor() {
        SkiSchool x = Schools.staffed("g3a1;g3a1;p3a;p3a;ia07:5;ia07:6;");
        Check.due("dismiss", x.dismiss(1), 1);
        Check.due("instructor", x.instructor(1), NONE);
        Check.due("the other group", x.instructor(0), 0);
        Check.due("only one is paid", x.pay(1), 5);
    }

    @Edge(promise = 28, says = "Returns the number of the group that the instructor had, NONE if there was none")
    static void dismissBeforeAndAfterTheGroupIsClosed() {
        SkiSchool x = Schools.staffed("g3a1;g3a1;p3a;p3a;ia07:5;ia07:6;ia07:7;");
        Check.due("never had one", x.dismiss(2), NONE);
        x.closeGroup(0);
        Check.due("its group is closed", x.dismiss(0), NONE);
        Check.due("its group is there", x.dismiss(1), 1);
    }

    @Edge(promise = 28, says = "whose number is free then")
    static void allNumbersAreFreeAfterAllAreDismissed() {
        SkiSchool x = eight();
        for (int n = 7; n >= 0; n--) {
            Check.due("dismiss", x.dismiss(n), NONE);
            Check.due("instructors", x.instructors(), n);
        }
        for (int n = 0; n < 8; n++) {
            Check.due("hire", x.hire(1, 0, 7, 1), n);
        }
    }

    // ---- Promises 29 and 30: instructors, canTeach

    @Edge(promise = 29, says = "Returns how many instructors there are.")
    static void instructorsOfAnEmptyAndAFullSchool() {
        Twins.noTrace("instructors", SkiSchool::new, SkiSchool::instructors, 0);
        Twins.noTrace("instructors", Schools::full, SkiSchool::instructors, 8);
        SkiSchool x = eight();
        x.dismiss(0);
        x.dismiss(7);
        Check.due("with gaps in the numbers", x.instructors(), 6);
    }

    @Edge(promise = 30, says = "BAD if there is no such instructor or group")
    static void canTeachNumbers() {
        Supplier<SkiSchool> all = () -> {
            SkiSchool x = eight();
            Schools.add(x, "g0a1;g1a1;g2b1;g3a1;");
            return x;
        };
        Twins.numbers("canTeach(n, 0)", all, (x, n) -> x.canTeach(n, 0), 8, n -> 1);
        Twins.numbers("canTeach(7, n)", all, (x, n) -> x.canTeach(7, n), 4, n -> n == 2 ? 0 : 1);
        Twins.noTrace("neither", all, x -> x.canTeach(8, 4), BAD);
        Twins.noTrace("nothing there", SkiSchool::new, x -> x.canTeach(0, 0), BAD);
        Twins.noTrace("no group", () -> Schools.of("ia07:1;"), x -> x.canTeach(0, 0), BAD);
        Twins.noTrace("no instructor", () -> Schools.of("g3a1;"), x -> x.canTeach(0, 0), BAD);
    }

    @Edge(promise = 30, says = "BAD if there is no such instructor or group")
    static void canTeachAfterARemoval() {
        SkiSchool x = Schools.of("g3a1;g3a1;ia07:1;ia07:1;");
        x.closeGroup(0);
        Check.due("a closed group", x.canTeach(0, 0), BAD);
        Check.due("the other group", x.canTeach(0, 1), 1);
        x.dismiss(0);
        Check.due("a dismissed instructor", x.canTeach(0, 1), BAD);
        Check.due("the other instructor", x.canTeach(1, 1), 1);
    }

    @Edge(promise = 30, says = "Returns 1 if the instructor can teach it, 0 if not")
    static void canTeachOfAGroupWithoutPupils() {
        Check.due("not active", Schools.of("g3a1;ia07:1;").canTeach(0, 0), 1);
        Check.due("taught by another", Schools.staffed("g3a1;p3a;ia07:1;ia07:2;").canTeach(1, 0), 1);
        Check.due("busy elsewhere", Schools.staffed("g3a1;g3a1;p3a;ia07:1;").canTeach(0, 1), 1);
    }

    // ---- Promise 31: staff

    @Edge(promise = 31, says = "Returns the cost of the best staffing (0 if no group is active)")
    static void staffWithoutAnActiveGroup() {
        Check.due("an empty school", new SkiSchool().staff(), 0);
        Check.due("no instructors", Schools.of("g3a1;p3a;").staff(), 0);
        Check.due("no pupils", Schools.of("g3a1;ia07:5;").staff(), 0);
        Check.due("no groups", Schools.of("p3a;ia07:5;").staff(), 0);
    }

    @Edge(promise = 31, says = "STATE if there is no staffing")
    static void staffWithoutAnInstructor() {
        Twins.noTrace("staff", () -> Schools.assigned("g3a1;p3a;"), SkiSchool::staff, STATE);
        Twins.noTrace("of four", () -> Schools.assigned(FOUR_ACTIVE), SkiSchool::staff, STATE);
        Twins.noTrace("three of four", () -> Schools.assigned(FOUR_ACTIVE + "ia07:1;".repeat(3)), SkiSchool::staff, STATE);
    }

    @Edge(promise = 31, says = "STATE if there is no staffing")
    static void aRefusedStaffingLeavesTheOldOne() {
        Supplier<SkiSchool> old = () -> {
            SkiSchool x = Schools.staffed("g3a1;g4a1;g5b1;p3a;p4a;ia03:5;ia47:6;");
            x.removePupil(0);
            Schools.add(x, "p5b;");
            x.assign();
            return x;
        };
        Twins.noTrace("staff", old, SkiSchool::staff, STATE);
        SkiSchool x = old.get();
        Check.due("staff", x.staff(), STATE);
        Check.due("a group that is not active any more", x.instructor(0), 0);
        Check.due("an active group", x.instructor(1), 1);
        Check.due("the new group", x.instructor(2), NONE);
    }

    @Edge(promise = 31, says = "STATE if there is no staffing")
    static void eightForFourWhoCanTeachOnlyThree() {
        String three = "ia05:1;".repeat(8);
        Twins.noTrace("staff", () -> Schools.assigned(FOUR_ACTIVE + three), SkiSchool::staff, STATE);
    }

    @Edge(promise = 31, says = "whatever instructors they had before")
    static void staffTwiceAndWithAnother() {
        SkiSchool x = Schools.staffed("g3a1;p3a;ia07:5;");
        staffing("again", x, 5, 0);
        Schools.add(x, "ia07:4;");
        staffing("a cheaper one", x, 4, 1);
        Check.due("the old one has no group", x.dismiss(0), NONE);
    }

    @Edge(promise = 31, says = "whatever instructors they had before")
    static void twoInstructorsChangePlaces() {
        SkiSchool x = Schools.staffed("g3a1;g5b1;p3a;iab07:5;iab07:6;");
        Schools.add(x, "p5b;");
        x.assign();
        staffing("both", x, 11, 0, 1);
        x.removePupil(0);
        staffing("only the second group", x, 5, NONE, 0);
        Check.due("dismiss", x.dismiss(1), NONE);
    }

    @Edge(promise = 31, says = "Groups that are not active have no instructor then.")
    static void allGroupsHaveBecomeEmpty() {
        SkiSchool x = Schools.staffed(FOUR_ACTIVE + "ia07:1;".repeat(4));
        for (int n = 0; n < 4; n++) {
            Check.due("instructor", x.instructor(n), n);
            x.removePupil(n);
        }
        staffing("nobody is left", x, 0, NONE, NONE, NONE, NONE);
    }

    // ---- Promise 32: pay

    @Edge(promise = 32, says = "`hours`: 1 to 100")
    static void payHours() {
        Twins.range("pay", () -> Schools.staffed("g3a1;g5b1;p3a;p5b;ia07:5;ib07:6;"), SkiSchool::pay, 1, 100, hours -> 11 * hours);
    }

    @Edge(promise = 32, says = "Returns the sum that is paid to all of them")
    static void theSmallestAndTheGreatestSum() {
        Check.due("an empty school", new SkiSchool().pay(1), 0);
        Check.due("one hour of wage 1", Schools.staffed("g3a1;p3a;ia07:1;").pay(1), 1);
        SkiSchool x = Schools.staffed(FOUR_ACTIVE + "ia07:999999;".repeat(5));
        Check.due("100 hours of four at 999999", x.pay(100), 399999600);
        for (int n = 0; n < 5; n++) {
            Check.due("earnings", x.earnings(n), n < 4 ? 99999900 : 0);
        }
    }

    @Edge(promise = 32, says = "Pays each instructor of an active group")
    static void nobodyIsPaid() {
        Check.due("active without an instructor", Schools.assigned("g3a1;p3a;ia07:5;").pay(100), 0);
        SkiSchool x = Schools.staffed("g3a1;p3a;ia07:5;");
        x.removePupil(0);
        Check.due("an instructor, but no pupils any more", x.pay(100), 0);
        Check.due("earnings", x.earnings(0), 0);
        SkiSchool y = Schools.staffed("g3a1;p3a;ia07:5;");
        y.closeGroup(0);
        Check.due("the group is closed", y.pay(100), 0);
    }

    /** 549791 times 3906 is 2147483646: one less than the limit, which no wage reaches, since it is a prime number. */
    private static SkiSchool nearTheLimit() {
        SkiSchool x = Schools.staffed("g3a1;p3a;ia07:549791;");
        for (int n = 0; n < 39; n++) {
            x.pay(100);
        }
        return x;
    }

    @Edge(promise = 32, says = "FULL if the earnings of one of them would be greater than 2147483647")
    static void earningsJustUnderTheLimit() {
        Twins.noTrace("an hour too much", InstructorEdgesTest::nearTheLimit, x -> x.pay(7), FULL);
        SkiSchool x = nearTheLimit();
        Check.due("just under it", x.pay(6), 3298746);
        Check.due("earnings", x.earnings(0), 2147483646);
        Check.due("one hour more", x.pay(1), FULL);
        Check.due("earnings", x.earnings(0), 2147483646);
    }

    /** 524288 times 4096 is 2147483648: one more than the limit. */
    @Edge(promise = 32, says = "FULL if the earnings of one of them would be greater than 2147483647")
    static void earningsJustOverTheLimit() {
        SkiSchool x = Schools.staffed("g3a1;p3a;ia07:524288;");
        for (int n = 0; n < 40; n++) {
            Check.due("pay", x.pay(100), 52428800);
        }
        Check.due("just over it", x.pay(96), FULL);
        Check.due("an hour less", x.pay(95), 49807360);
        Check.due("just over it", x.pay(1), FULL);
        Check.due("earnings", x.earnings(0), 2146959360);
    }

    /** 999999 times 2147 is 2146997853: an int would wrap around with one hour more. */
    private static SkiSchool rich(String cheap, String dear) {
        SkiSchool x = Schools.staffed("g3a1;g5b1;p3a;p5b;" + cheap + dear);
        for (int n = 0; n < 21; n++) {
            x.pay(100);
        }
        x.pay(47);
        return x;
    }

    @Edge(promise = 32, says = "FULL if the earnings of one of them would be greater than 2147483647")
    static void nobodyIsPaidIfTheFirstIsFull() {
        Supplier<SkiSchool> first = () -> rich("ia07:999999;", "ib07:1;");
        Twins.noTrace("1 hour", first, x -> x.pay(1), FULL);
        Twins.noTrace("100 hours", first, x -> x.pay(100), FULL);
        SkiSchool x = first.get();
        x.pay(1);
        Check.due("earnings of the first", x.earnings(0), 2146997853);
        Check.due("earnings of the second", x.earnings(1), 2147);
    }

    @Edge(promise = 32, says = "FULL if the earnings of one of them would be greater than 2147483647")
    static void nobodyIsPaidIfTheLastIsFull() {
        Supplier<SkiSchool> last = () -> rich("ia07:1;", "ib07:999999;");
        Twins.noTrace("1 hour", last, x -> x.pay(1), FULL);
        SkiSchool x = last.get();
        x.pay(1);
        Check.due("earnings of the first", x.earnings(0), 2147);
        Check.due("earnings of the last", x.earnings(1), 2146997853);
    }

    @Edge(promise = 32, says = "FULL if the earnings of one of them would be greater than 2147483647")
    static void nobodyIsPaidIfOneOfFourIsFull() {
        for (int rich = 0; rich < 4; rich++) {
            StringBuilder four = new StringBuilder(FOUR_ACTIVE);
            for (int n = 0; n < 4; n++) {
                four.append("ia").append(2 * n).append(2 * n).append(n == rich ? ":999999;" : ":2;");
            }
            Supplier<SkiSchool> paid = () -> {
                SkiSchool x = Schools.staffed(four.toString());
                for (int n = 0; n < 21; n++) {
                    x.pay(100);
                }
                return x;
            };
            Twins.noTrace("48 hours with instructor " + rich + " rich", paid, x -> x.pay(48), FULL);
            Check.due("47 hours", paid.get().pay(47), 47 * (999999 + 6));
        }
    }

    @Edge(promise = 32, says = "FULL if the earnings of one of them would be greater than 2147483647")
    static void theRichOneIsNotToBePaid() {
        SkiSchool x = rich("ia07:1;", "ib07:999999;");
        x.removePupil(1);
        Check.due("its group is not active", x.pay(100), 100);
        SkiSchool y = rich("ia07:1;", "ib07:999999;");
        y.closeGroup(1);
        Check.due("its group is closed", y.pay(100), 100);
    }

    @Edge(promise = 32, says = "BAD if hours is out of range; FULL if the earnings")
    static void payIsBadBeforeFull() {
        Supplier<SkiSchool> full = () -> rich("ia07:1;", "ib07:999999;");
        Twins.noTrace("101", full, x -> x.pay(101), BAD);
        Twins.noTrace("0", full, x -> x.pay(0), BAD);
        Twins.noTrace("0 hours of nobody", SkiSchool::new, x -> x.pay(0), BAD);
    }

    // ---- Promise 33: earnings

    @Edge(promise = 33, says = "BAD if there is no such instructor")
    static void earningsNumbers() {
        Supplier<SkiSchool> paid = () -> {
            SkiSchool x = Schools.staffed(FOUR_ACTIVE + "ia07:1;ia07:2;ia07:3;ia07:4;ia07:5;ia07:6;ia07:7;ia07:8;");
            x.pay(100);
            return x;
        };
        Twins.numbers("earnings", paid, SkiSchool::earnings, 8, n -> n < 4 ? 100 * (n + 1) : 0);
        Twins.numbers("earnings of none", SkiSchool::new, SkiSchool::earnings, 0, n -> 0);
    }

    @Edge(promise = 33, says = "BAD if there is no such instructor")
    static void earningsOfADismissedInstructor() {
        SkiSchool x = Schools.staffed("g3a1;p3a;ia07:5;ia07:6;");
        x.pay(1);
        x.dismiss(0);
        Check.due("earnings", x.earnings(0), BAD);
        Check.due("the other one", x.earnings(1), 0);
    }

    @Edge(promise = 33, says = "Returns the earnings")
    static void earningsStayWithTheInstructor() {
        SkiSchool x = Schools.staffed("g3a1;p3a;ia07:5;");
        x.pay(3);
        x.closeGroup(0);
        Check.due("without a group", x.earnings(0), 15);
        x.openGroup(3, 0, 1);
        x.assign();
        x.staff();
        x.pay(1);
        Check.due("with a new one", x.earnings(0), 20);
    }
}
