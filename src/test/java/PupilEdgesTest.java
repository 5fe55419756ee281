/** The boundary cases of promises 2 to 10, and of "Pupils and families". */
public final class PupilEdgesTest {
    private static final int NONE = SkiSchool.NONE, BAD = SkiSchool.BAD, FULL = SkiSchool.FULL;

    public static void main(String[] args) {
        Edges.run(PupilEdgesTest.class);
    }

    /** 20 pupils with the levels 0 to 7 in turn and the languages 1 to 20; every fifth one is without a family. */
    private static SkiSchool twenty() {
        SkiSchool x = new SkiSchool();
        for (int n = 0; n < 20; n++) {
            x.addPupil(n % 8, n + 1, familyOf(n));
        }
        return x;
    }

    private static int familyOf(int n) {
        return n % 5 == 0 ? NONE : n % 8;
    }

    private static SkiSchool keeping(String roster, int... families) {
        SkiSchool x = Schools.of(roster);
        for (int f : families) {
            x.setTogether(f, true);
        }
        x.assign();
        return x;
    }

    // ---- Terms

    @Edge(promise = 0, says = "The school has at most 20 pupils (initially none).")
    static void atMost20Pupils() {
        SkiSchool x = new SkiSchool();
        for (int n = 1; n <= 20; n++) {
            Check.holds("pupil " + n + " is taken", x.addPupil(0, 1, NONE) >= 0);
            Check.due("pupils", x.pupils(), n);
        }
        Check.due("the 21st", x.addPupil(0, 1, NONE), FULL);
        Check.due("pupils", x.pupils(), 20);
    }

    @Edge(promise = 0, says = "A pupil has a number from 0 to 19")
    static void numbersFrom0To19() {
        SkiSchool x = new SkiSchool();
        for (int n = 0; n < 20; n++) {
            Check.due("addPupil", x.addPupil(0, 1, NONE), n);
        }
    }

    @Edge(promise = 0, says = "A new pupil gets the smallest number that no pupil has")
    static void theSmallestOfSeveralFreeNumbers() {
        SkiSchool x = twenty();
        x.removePupil(19);
        x.removePupil(7);
        x.removePupil(0);
        x.removePupil(8);
        Check.due("addPupil", x.addPupil(0, 1, NONE), 0);
        Check.due("addPupil", x.addPupil(0, 1, NONE), 7);
        Check.due("addPupil", x.addPupil(0, 1, NONE), 8);
        Check.due("addPupil", x.addPupil(0, 1, NONE), 19);
        Check.due("addPupil", x.addPupil(0, 1, NONE), FULL);
    }

    @Edge(promise = 0, says = "A new pupil gets the smallest number that no pupil has")
    static void theOnlyNumberIsFreeAgain() {
        SkiSchool x = Schools.of("p0a;");
        x.removePupil(0);
        Check.due("addPupil", x.addPupil(7, 63, 7), 0);
        Check.due("addPupil", x.addPupil(7, 63, 7), 1);
    }

    @Edge(promise = 0, says = "A new pupil gets the smallest number that no pupil has, and has no group.")
    static void aNumberThatIsFreeAgainHasNoGroup() {
        SkiSchool x = Schools.assigned("g3a6;p3a;p3a;");
        x.removePupil(0);
        Check.due("addPupil", x.addPupil(3, 1, NONE), 0);
        Check.due("group", x.group(0), NONE);
        Check.due("size", x.size(0), 1);
    }

    @Edge(promise = 0, says = "a new pupil has no scores")
    static void aNumberThatIsFreeAgainHasNoScores() {
        SkiSchool x = Schools.of("p3a;");
        Check.scores(x, 0, 10, 9, 8, 0);
        x.removePupil(0);
        x.addPupil(3, 1, NONE);
        for (int e = 0; e < 4; e++) {
            Check.due("scoreOf", x.scoreOf(0, e), NONE);
        }
        Check.due("score", x.score(0, 3, 1), 1);
    }

    @Edge(promise = 0, says = "There are six languages, numbered from 0 to 5.")
    static void eachLanguageOnItsOwn() {
        for (int set = 0; set < 6; set++) {
            for (int language = 0; language < 6; language++) {
                SkiSchool x = new SkiSchool();
                x.openGroup(3, language, 6);
                x.addPupil(3, 1 << set, NONE);
                Check.due("set of " + set + ", group of " + language, x.assign(), set == language ? 1 : 0);
            }
        }
    }

    @Edge(promise = 0, says = "A set of languages is an int from 1 to 63; bit k is set if language k belongs to the set.")
    static void allLanguagesAndAllButOne() {
        for (int language = 0; language < 6; language++) {
            SkiSchool x = new SkiSchool();
            x.openGroup(3, language, 6);
            x.addPupil(3, 63, NONE);
            x.addPupil(3, 63 - (1 << language), NONE);
            Check.due("assign", x.assign(), 1);
            Check.due("all languages", x.group(0), 0);
            Check.due("all but language " + language, x.group(1), NONE);
        }
    }

    @Edge(promise = 0, says = "either all members are in the same group, or no member is in a group")
    static void pupilsWithoutAFamilyAreNoFamily() {
        SkiSchool x = keeping("g3a1;g3a1;p3a;p3a;p3a;", 0, 1, 2, 3, 4, 5, 6, 7);
        Check.due("placed", x.placed(), 2);
        x.addPupil(3, 1, NONE);
        Check.due("nobody leaves", x.placed(), 2);
    }

    @Edge(promise = 0, says = "either all members are in the same group, or no member is in a group")
    static void aKeptFamilyOfOne() {
        SkiSchool x = keeping("g3a1;g3a1;p3a/0;p3a/7;", 0, 7);
        Check.due("group", x.group(0), 0);
        Check.due("group", x.group(1), 1);
        Check.due("setTogether again", x.setTogether(0, true), 0);
        Check.due("placed", x.placed(), 2);
    }

    @Edge(promise = 0, says = "If a call of addPupil, grade or setTogether would break this rule, all members of that family leave")
    static void addPupilToAPlacedFamilyOfOne() {
        SkiSchool x = keeping("g3a6;p3a/0;p3a/1;", 0, 1);
        x.addPupil(3, 1, 0);
        Check.due("its member leaves", x.group(0), NONE);
        Check.due("the other family stays", x.group(1), 0);
        Check.due("size", x.size(0), 1);
    }

    @Edge(promise = 0, says = "If a call of addPupil, grade or setTogether would break this rule, all members of that family leave")
    static void addPupilToAPlacedFamilyOfSix() {
        SkiSchool x = keeping("g3a6;" + "p3a/7;".repeat(6), 7);
        Check.due("size", x.size(0), 6);
        x.addPupil(3, 1, 7);
        Check.due("size", x.size(0), 0);
        Check.due("placed", x.placed(), 0);
    }

    @Edge(promise = 0, says = "If a call of addPupil, grade or setTogether would break this rule")
    static void addPupilToAKeptFamilyWithoutAGroup() {
        SkiSchool x = keeping("g3a1;p3a;p3a/2;p3a/2;", 2);
        x.addPupil(3, 1, 2);
        Check.due("the rule holds, nobody leaves", x.placed(), 1);
        Check.due("group", x.group(0), 0);
    }

    @Edge(promise = 0, says = "If a call of addPupil, grade or setTogether would break this rule")
    static void addPupilAsTheFirstMemberOfAKeptFamily() {
        SkiSchool x = keeping("g3a6;p3a;p3a/1;", 1, 2);
        x.addPupil(3, 1, 2);
        Check.due("nobody leaves", x.placed(), 2);
    }

    @Edge(promise = 0, says = "Each family is either free or kept together")
    static void addPupilToAFreeFamily() {
        SkiSchool x = keeping("g3a6;p3a/2;p3a/2;", 1, 3);
        x.addPupil(3, 1, 2);
        Check.due("nobody leaves", x.placed(), 2);
    }

    @Edge(promise = 0, says = "If a call of addPupil, grade or setTogether would break this rule, all members of that family leave")
    static void thePupilWithTheGreatestNumberBreaksTheRule() {
        SkiSchool x = keeping("g3a6;p3a/4;" + "p0a;".repeat(18), 4);
        Check.due("placed", x.placed(), 1);
        Check.due("addPupil", x.addPupil(3, 1, 4), 19);
        Check.due("the first one leaves", x.group(0), NONE);
        SkiSchool y = Schools.assigned("g3a1;g3a1;p3a/4;" + "p0a;".repeat(18) + "p3a/4;");
        Check.due("setTogether", y.setTogether(4, true), 2);
        Check.due("the last one leaves", y.group(19), NONE);
    }

    @Edge(promise = 0, says = "which means that they have no group any more")
    static void theGroupIsEmptyWhenAFamilyHasLeft() {
        SkiSchool x = keeping("g3a2;p3a/0;p3a/0;ia07:5;", 0);
        x.staff();
        x.addPupil(3, 1, 0);
        Check.due("size", x.size(0), 0);
        Check.due("no group is active", x.staff(), 0);
    }

    // ---- Promise 2: addPupil

    @Edge(promise = 2, says = "`level`: 0 to 7")
    static void addPupilLevels() {
        Twins.range("addPupil(level)", Schools::busy, (x, level) -> x.addPupil(level, 1, NONE), 0, 7, level -> 6);
        for (int level = 0; level <= 7; level++) {
            SkiSchool x = new SkiSchool();
            x.addPupil(level, 1, NONE);
            Check.due("level", x.level(0), level);
        }
    }

    @Edge(promise = 2, says = "`languages`: a set of languages, 1 to 63")
    static void addPupilLanguages() {
        Twins.range("addPupil(languages)", Schools::busy, (x, set) -> x.addPupil(3, set, NONE), 1, 63, set -> 6);
        for (int set = 1; set <= 63; set++) {
            SkiSchool x = new SkiSchool();
            x.addPupil(3, set, NONE);
            Check.due("languages", x.languages(0), set);
        }
    }

    @Edge(promise = 2, says = "`family`: 0 to 7, or NONE")
    static void addPupilFamilies() {
        Twins.range("addPupil(family)", Schools::busy, (x, family) -> x.addPupil(3, 1, family), 0, 7, family -> 6, NONE);
        for (int family = 0; family <= 7; family++) {
            SkiSchool x = new SkiSchool();
            x.addPupil(3, 1, family);
            Check.due("family", x.family(0), family);
            Check.due("spread", x.spread(family), 0);
        }
    }

    @Edge(promise = 2, says = "BAD if an argument is out of range")
    static void addPupilWithEachPairOutOfRange() {
        Twins.noTrace("level and languages", Schools::busy, x -> x.addPupil(-1, 0, NONE), BAD);
        Twins.noTrace("languages and family", Schools::busy, x -> x.addPupil(0, 64, 8), BAD);
        Twins.noTrace("level and family", Schools::busy, x -> x.addPupil(8, 1, -1), BAD);
        Twins.noTrace("all", Schools::busy, x -> x.addPupil(8, 64, 8), BAD);
    }

    @Edge(promise = 2, says = "FULL if there are 20 pupils")
    static void addPupilTo19AndTo20() {
        SkiSchool x = twenty();
        x.removePupil(11);
        Check.due("to 19", x.addPupil(0, 1, NONE), 11);
        Check.due("to 20", x.addPupil(0, 1, NONE), FULL);
        Twins.noTrace("to 20", Schools::full, y -> y.addPupil(3, 1, NONE), FULL);
    }

    @Edge(promise = 2, says = "FULL if there are 20 pupils")
    static void addPupilThatIsFullSeparatesNoFamily() {
        String roster = "g3a6;g3a2;p3a/0;p3a/0;" + "p0a;".repeat(18);
        Twins.noTrace("to 20", () -> keeping(roster, 0), x -> x.addPupil(3, 1, 0), FULL);
        SkiSchool x = keeping(roster, 0);
        x.addPupil(3, 1, 0);
        Check.due("the family stays", x.placed(), 2);
    }

    @Edge(promise = 2, says = "BAD if an argument is out of range; FULL if there are 20 pupils")
    static void addPupilIsBadBeforeFull() {
        Twins.noTrace("level", Schools::full, x -> x.addPupil(8, 1, NONE), BAD);
        Twins.noTrace("languages", Schools::full, x -> x.addPupil(0, 0, NONE), BAD);
        Twins.noTrace("family", Schools::full, x -> x.addPupil(0, 1, 8), BAD);
    }

    @Edge(promise = 2, says = "BAD if an argument is out of range")
    static void addPupilThatIsBadSeparatesNoFamily() {
        SkiSchool x = keeping("g3a6;p3a/0;p3a/0;", 0);
        Check.due("level", x.addPupil(8, 1, 0), BAD);
        Check.due("languages", x.addPupil(3, 64, 0), BAD);
        Check.due("the family stays", x.placed(), 2);
    }

    // ---- Promise 3: removePupil

    @Edge(promise = 3, says = "BAD if there is no such pupil")
    static void removePupilNumbers() {
        Twins.numbers("removePupil", PupilEdgesTest::twenty, SkiSchool::removePupil, 20, n -> 19);
        Twins.numbers("removePupil", Schools::busy, SkiSchool::removePupil, 6, n -> 5);
        Twins.numbers("removePupil of nobody", SkiSchool::new, SkiSchool::removePupil, 0, n -> 0);
    }

    @Edge(promise = 3, says = "BAD if there is no such pupil")
    static void removePupilTwice() {
        SkiSchool x = twenty();
        Check.due("removePupil", x.removePupil(5), 19);
        Check.due("again", x.removePupil(5), BAD);
        Check.due("pupils", x.pupils(), 19);
    }

    @Edge(promise = 3, says = "Returns how many pupils are left")
    static void removePupilDownToNobody() {
        SkiSchool x = twenty();
        for (int n = 19; n >= 0; n--) {
            Check.due("removePupil", x.removePupil(n), n);
        }
        Check.due("pupils", x.pupils(), 0);
    }

    @Edge(promise = 3, says = "Removes a pupil.")
    static void removeTheLastPupilOfAGroup() {
        SkiSchool x = Schools.staffed("g3a1;p3a;ia07:5;");
        Check.due("removePupil", x.removePupil(0), 0);
        Check.due("size", x.size(0), 0);
        Check.due("placed", x.placed(), 0);
        Check.due("the group stays", x.groups(), 1);
        Check.due("it is not active", x.pay(1), 0);
    }

    @Edge(promise = 3, says = "Removes a pupil.")
    static void removeAMemberOfAKeptFamily() {
        SkiSchool x = keeping("g3a6;p3a/4;p4a/4;p2a/4;", 4);
        Check.due("removePupil", x.removePupil(1), 2);
        Check.due("the others stay", x.placed(), 2);
        Check.due("removePupil", x.removePupil(0), 1);
        Check.due("the last one stays", x.group(2), 0);
    }

    // ---- Promise 4: pupils

    @Edge(promise = 4, says = "Returns how many pupils there are.")
    static void pupilsOfAnEmptyAndAFullSchool() {
        Twins.noTrace("pupils", SkiSchool::new, SkiSchool::pupils, 0);
        Twins.noTrace("pupils", Schools::full, SkiSchool::pupils, 20);
    }

    @Edge(promise = 4, says = "Returns how many pupils there are.")
    static void pupilsWithGapsInTheNumbers() {
        SkiSchool x = twenty();
        x.removePupil(0);
        x.removePupil(19);
        x.removePupil(10);
        Check.due("pupils", x.pupils(), 17);
    }

    // ---- Promises 5 to 8: level, languages, family, group

    @Edge(promise = 5, says = "BAD if there is no such pupil")
    static void levelNumbers() {
        Twins.numbers("level", PupilEdgesTest::twenty, SkiSchool::level, 20, n -> n % 8);
        Twins.numbers("level of nobody", SkiSchool::new, SkiSchool::level, 0, n -> 0);
    }

    @Edge(promise = 6, says = "BAD if there is no such pupil")
    static void languagesNumbers() {
        Twins.numbers("languages", PupilEdgesTest::twenty, SkiSchool::languages, 20, n -> n + 1);
        Twins.numbers("languages of nobody", SkiSchool::new, SkiSchool::languages, 0, n -> 0);
    }

    @Edge(promise = 7, says = "BAD if there is no such pupil")
    static void familyNumbers() {
        Twins.numbers("family", PupilEdgesTest::twenty, SkiSchool::family, 20, PupilEdgesTest::familyOf);
        Twins.numbers("family of nobody", SkiSchool::new, SkiSchool::family, 0, n -> 0);
    }

    @Edge(promise = 7, says = "NONE if the pupil has none")
    static void familyNoneIsNotFamily0() {
        SkiSchool x = Schools.of("p3a;p3a/0;");
        Check.due("no family", x.family(0), NONE);
        Check.due("family 0", x.family(1), 0);
    }

    @Edge(promise = 8, says = "BAD if there is no such pupil")
    static void groupNumbers() {
        Twins.numbers("group", () -> Schools.assigned("g3a6;".repeat(4) + "p3a;".repeat(20)), SkiSchool::group, 20, n -> n / 6);
        Twins.numbers("group of nobody", SkiSchool::new, SkiSchool::group, 0, n -> 0);
    }

    @Edge(promise = 8, says = "NONE if the pupil has none")
    static void groupNoneIsNotGroup0() {
        SkiSchool x = Schools.of("g3a1;p3a;p3a;");
        Check.due("before the plan", x.group(0), NONE);
        x.assign();
        Check.due("the first one", x.group(0), 0);
        Check.due("no seat", x.group(1), NONE);
    }

    @Edge(promise = 5, says = "BAD if there is no such pupil")
    static void levelOfARemovedPupil() {
        SkiSchool x = Schools.of("p3a/1;p4b/2;");
        x.removePupil(0);
        Check.due("level", x.level(0), BAD);
        Check.due("the other one", x.level(1), 4);
    }

    @Edge(promise = 6, says = "BAD if there is no such pupil")
    static void languagesOfARemovedPupil() {
        SkiSchool x = Schools.of("p3a/1;p4b/2;");
        x.removePupil(1);
        Check.due("languages", x.languages(1), BAD);
        Check.due("the other one", x.languages(0), 1);
    }

    @Edge(promise = 7, says = "BAD if there is no such pupil")
    static void familyOfARemovedPupil() {
        SkiSchool x = Schools.of("p3a/1;p4b/2;");
        x.removePupil(0);
        Check.due("family", x.family(0), BAD);
        Check.due("the other one", x.family(1), 2);
    }

    @Edge(promise = 8, says = "BAD if there is no such pupil")
    static void groupOfARemovedPupil() {
        SkiSchool x = Schools.assigned("g3a2;p3a;p3a;");
        x.removePupil(0);
        Check.due("group", x.group(0), BAD);
        Check.due("the other one", x.group(1), 0);
    }

    // ---- Promise 9: setTogether

    @Edge(promise = 9, says = "`family`: 0 to 7 (a family without members, too)")
    static void setTogetherFamilies() {
        Twins.range("setTogether(true)", () -> Schools.of("g3a6;"), (x, f) -> x.setTogether(f, true), 0, 7, f -> 0);
        Twins.range("setTogether(false)", Schools::busy, (x, f) -> x.setTogether(f, false), 0, 7, f -> 0);
    }

    @Edge(promise = 9, says = "BAD if family is out of range")
    static void setTogetherWithABadFamily() {
        Twins.noTrace("-1", Schools::full, x -> x.setTogether(-1, true), BAD);
        Twins.noTrace("8", Schools::full, x -> x.setTogether(8, false), BAD);
        Twins.noTrace("NONE", Schools::full, x -> x.setTogether(NONE, true), BAD);
    }

    @Edge(promise = 9, says = "(a family without members, too)")
    static void aFamilyIsKeptBeforeItHasMembers() {
        for (int f = 0; f < 8; f++) {
            SkiSchool x = Schools.of("g3a1;g3a1;");
            Check.due("setTogether", x.setTogether(f, true), 0);
            Schools.add(x, "p3a/" + f + ";p3a/" + f + ";");
            Check.due("family " + f + " is kept", x.assign(), 0);
        }
    }

    @Edge(promise = 9, says = "(a family without members, too)")
    static void aFamilyIsKeptAfterItsLastMemberHasGone() {
        SkiSchool x = keeping("g3a1;g3a1;p3a/5;", 5);
        x.removePupil(0);
        Schools.add(x, "p3a/5;p3a/5;");
        Check.due("assign", x.assign(), 0);
    }

    @Edge(promise = 9, says = "`together`: whether it is kept together from now on")
    static void setTogetherConcernsOneFamily() {
        for (int f = 0; f < 8; f++) {
            SkiSchool x = Schools.of("g3a1;g3a1;p3a/0;p3a/0;");
            x.setTogether(f, true);
            Check.due("family " + f + " is kept", x.assign(), f == 0 ? 0 : 2);
        }
    }

    @Edge(promise = 9, says = "Returns how many members left a group by this call")
    static void allMembersInOneGroup() {
        SkiSchool x = Schools.assigned("g3a6;" + "p3a/1;".repeat(6));
        Check.due("setTogether", x.setTogether(1, true), 0);
        Check.due("they stay", x.size(0), 6);
    }

    @Edge(promise = 9, says = "Returns how many members left a group by this call")
    static void noMemberInAGroup() {
        SkiSchool x = Schools.assigned("g3a1;p3a;p3a/1;p3a/1;");
        Check.due("setTogether", x.setTogether(1, true), 0);
        Check.due("the other pupil stays", x.group(0), 0);
    }

    @Edge(promise = 9, says = "Returns how many members left a group by this call")
    static void oneMemberInAGroupAndOneWithout() {
        SkiSchool x = Schools.assigned("g3a1;p3a/1;p3a/1;");
        Check.due("the first one leaves", x.setTogether(1, true), 1);
        Check.due("group", x.group(0), NONE);
        SkiSchool y = Schools.assigned("g3b1;p3a/1;p3b/1;");
        Check.due("the second one leaves", y.setTogether(1, true), 1);
        Check.due("group", y.group(1), NONE);
    }

    @Edge(promise = 9, says = "Returns how many members left a group by this call")
    static void membersInTwoGroups() {
        SkiSchool x = Schools.assigned("g3a2;g3a1;p3a/1;p3a/1;p3a/1;");
        Check.due("setTogether", x.setTogether(1, true), 3);
        Check.due("placed", x.placed(), 0);
    }

    @Edge(promise = 9, says = "Returns how many members left a group by this call")
    static void allTwentyLeave() {
        SkiSchool x = Schools.assigned("g3a6;".repeat(4) + "p3a/7;".repeat(20));
        Check.due("placed", x.placed(), 20);
        Check.due("setTogether", x.setTogether(7, true), 20);
        Check.due("placed", x.placed(), 0);
    }

    @Edge(promise = 9, says = "Returns how many members left a group by this call")
    static void aMemberWhoHadNoGroupIsNotCounted() {
        SkiSchool x = Schools.assigned("g3a1;g4a1;p3a/1;p3a/1;p3b/1;p3a/2;");
        Check.due("placed", x.placed(), 2);
        Check.due("setTogether", x.setTogether(1, true), 2);
    }

    @Edge(promise = 9, says = "Returns how many members left a group by this call")
    static void setTogetherTwice() {
        SkiSchool x = Schools.assigned("g3a1;p3a/1;p3a/1;");
        Check.due("setTogether", x.setTogether(1, true), 1);
        Check.due("again", x.setTogether(1, true), 0);
        SkiSchool y = keeping("g3a2;p3a/1;p3a/1;", 1);
        Twins.noTrace("again", () -> keeping("g3a2;p3a/1;p3a/1;", 1), z -> z.setTogether(1, true), 0);
        Check.due("they stay", y.placed(), 2);
    }

    @Edge(promise = 9, says = "Returns how many members left a group by this call")
    static void setFreeLeavesAllWhereTheyAre() {
        SkiSchool x = keeping("g3a2;p3a/1;p3a/1;", 1);
        Check.due("free", x.setTogether(1, false), 0);
        Check.due("they stay", x.placed(), 2);
        x.addPupil(3, 1, 1);
        Check.due("it is free", x.placed(), 2);
        SkiSchool y = Schools.assigned("g3a1;p3a/1;p3a/1;");
        Check.due("free twice", y.setTogether(1, false), 0);
        Check.due("one has a group", y.placed(), 1);
    }

    // ---- Promise 10: spread

    @Edge(promise = 10, says = "`family`: 0 to 7")
    static void spreadFamilies() {
        String all = "p0a/0;p1a/1;p1a/0;p3a/1;p0a/2;p3a/2;p0a/3;p4a/3;p0a/4;p5a/4;p0a/5;p6a/5;p1a/6;p7a/6;p0a/7;p7a/7;";
        int[] due = {1, 2, 3, 4, 5, 6, 6, 7};
        Twins.range("spread", () -> Schools.of(all), SkiSchool::spread, 0, 7, f -> due[f]);
    }

    @Edge(promise = 10, says = "NONE if the family has no members")
    static void spreadWithoutMembers() {
        SkiSchool x = Schools.of("p0a;p7a;p0a/1;p7a/6;");
        int[] due = {NONE, 0, NONE, NONE, NONE, NONE, 0, NONE};
        for (int f = 0; f < 8; f++) {
            Check.due("spread(" + f + ")", x.spread(f), due[f]);
        }
        x.setTogether(2, true);
        Check.due("a kept family without members", x.spread(2), NONE);
    }

    @Edge(promise = 10, says = "NONE if the family has no members")
    static void spreadAfterTheLastMemberHasGone() {
        SkiSchool x = Schools.of("p4a/3;p6a/3;");
        x.removePupil(0);
        Check.due("one member", x.spread(3), 0);
        x.removePupil(1);
        Check.due("no member", x.spread(3), NONE);
    }

    @Edge(promise = 10, says = "Returns the highest level of a member minus the lowest level of a member")
    static void spreadOfOneMember() {
        for (int level = 0; level <= 7; level++) {
            SkiSchool x = new SkiSchool();
            x.addPupil(level, 1, 4);
            Check.due("level " + level, x.spread(4), 0);
        }
    }

    @Edge(promise = 10, says = "Returns the highest level of a member minus the lowest level of a member")
    static void theWidestSpread() {
        Check.due("up", Schools.of("p0a/0;p7a/0;").spread(0), 7);
        Check.due("down", Schools.of("p7a/0;p0a/0;").spread(0), 7);
        Check.due("with others between", Schools.of("p4a/0;p0a/0;p3a/0;p7a/0;p2a/0;").spread(0), 7);
    }

    @Edge(promise = 10, says = "Returns the highest level of a member minus the lowest level of a member")
    static void spreadOfTwentyMembers() {
        SkiSchool x = Schools.of("p3a/6;".repeat(19) + "p5a/6;");
        Check.due("spread", x.spread(6), 2);
        x.removePupil(19);
        Check.due("all the same", x.spread(6), 0);
    }

    @Edge(promise = 10, says = "BAD if family is out of range")
    static void spreadOfABadFamily() {
        SkiSchool x = Schools.of("p0a;p7a;");
        Check.due("NONE is no family", x.spread(NONE), BAD);
        Check.due("-1", x.spread(-1), BAD);
        Check.due("8", x.spread(8), BAD);
    }
}
