import java.util.function.Supplier;

/** The boundary cases of promises 11 to 15, and of "Tests". */
public final class ScoreEdgesTest {
    private static final int NONE = SkiSchool.NONE, BAD = SkiSchool.BAD, STATE = SkiSchool.STATE;

    public static void main(String[] args) {
        Edges.run(ScoreEdgesTest.class);
    }

    /** A school with these marks, and a pupil of level 3 who has the four scores. */
    private static SkiSchool tested(int pass, int minimum, int drop, int... scores) {
        SkiSchool x = Schools.of("p3a;");
        Check.holds("setMarks", x.setMarks(pass, minimum, drop) >= 0);
        Check.scores(x, 0, scores[0], scores[1], scores[2], scores[3]);
        return x;
    }

    private static int graded(int pass, int minimum, int drop, int... scores) {
        return tested(pass, minimum, drop, scores).grade(0);
    }

    /** A pupil of a level in a group of a level passes or drops by one. */
    private static SkiSchool gradedInGroup(int level, int groupLevel, int points) {
        SkiSchool x = Schools.assigned("g" + groupLevel + "a6;p" + level + "a;");
        Check.due("placed", x.placed(), 1);
        Check.scores(x, 0, points, points, points, points);
        x.grade(0);
        return x;
    }

    // ---- Promise 11: score

    @Edge(promise = 11, says = "`pupil`: the number of the pupil")
    static void scoreNumbers() {
        Supplier<SkiSchool> twenty = () -> Schools.of("p3a;".repeat(20));
        Twins.numbers("score", twenty, (x, n) -> x.score(n, 0, 5), 20, n -> 1);
        Twins.numbers("score", Schools::busy, (x, n) -> x.score(n, 0, 5), 6, n -> n == 2 ? 3 : 1);
        Twins.numbers("score of nobody", SkiSchool::new, (x, n) -> x.score(n, 0, 5), 0, n -> 0);
    }

    @Edge(promise = 11, says = "`exercise`: 0 to 3")
    static void scoreExercises() {
        Twins.range("score(exercise)", Schools::busy, (x, e) -> x.score(0, e, 5), 0, 3, e -> 1);
        for (int e = 0; e < 4; e++) {
            SkiSchool x = Schools.of("p3a;");
            x.score(0, e, 5);
            for (int other = 0; other < 4; other++) {
                Check.due("scoreOf", x.scoreOf(0, other), other == e ? 5 : NONE);
            }
        }
    }

    @Edge(promise = 11, says = "`points`: 0 to 10")
    static void scorePoints() {
        Twins.range("score(points)", Schools::busy, (x, points) -> x.score(2, 3, points), 0, 10, points -> 2);
        for (int points = 0; points <= 10; points++) {
            SkiSchool x = Schools.of("p3a;");
            x.score(0, 3, points);
            Check.due("scoreOf", x.scoreOf(0, 3), points);
        }
    }

    @Edge(promise = 11, says = "BAD if there is no such pupil, or exercise or points is out of range")
    static void scoreWithSeveralArgumentsOutOfRange() {
        Twins.noTrace("pupil and exercise", Schools::full, x -> x.score(20, 4, 5), BAD);
        Twins.noTrace("exercise and points", Schools::full, x -> x.score(0, -1, 11), BAD);
        Twins.noTrace("pupil and points", Schools::full, x -> x.score(-1, 0, -1), BAD);
        Twins.noTrace("NONE is no score", Schools::busy, x -> x.score(2, 1, NONE), BAD);
    }

    @Edge(promise = 11, says = "BAD if there is no such pupil")
    static void scoreOfARemovedPupilIsBad() {
        SkiSchool x = Schools.of("p3a;p3a;");
        x.score(0, 0, 5);
        x.removePupil(0);
        Check.due("score", x.score(0, 1, 5), BAD);
        Check.due("the other one", x.score(1, 1, 5), 1);
    }

    @Edge(promise = 11, says = "Returns in how many exercises the pupil has a score then")
    static void oneToFourScores() {
        SkiSchool x = Schools.of("p3a;p3a;");
        Check.due("the first", x.score(0, 3, 0), 1);
        Check.due("the second", x.score(0, 0, 0), 2);
        Check.due("the third", x.score(0, 2, 10), 3);
        Check.due("the fourth", x.score(0, 1, 0), 4);
        Check.due("of another pupil", x.score(1, 1, 0), 1);
    }

    @Edge(promise = 11, says = "in place of an earlier one in the same exercise")
    static void aScoreInPlaceOfAnEarlierOne() {
        SkiSchool x = Schools.of("p3a;");
        Check.due("the first", x.score(0, 0, 10), 1);
        Check.due("in its place", x.score(0, 0, 0), 1);
        Check.due("scoreOf", x.scoreOf(0, 0), 0);
        Check.scores(x, 0, 1, 2, 3, 4);
        Check.due("in place of one of four", x.score(0, 3, 10), 4);
        Check.due("scoreOf", x.scoreOf(0, 3), 10);
    }

    // ---- Promise 12: scoreOf

    @Edge(promise = 12, says = "BAD if there is no such pupil")
    static void scoreOfNumbers() {
        Supplier<SkiSchool> twenty = () -> Schools.of("p3a;".repeat(20));
        Twins.numbers("scoreOf", twenty, (x, n) -> x.scoreOf(n, 0), 20, n -> NONE);
        Twins.numbers("scoreOf", Schools::busy, (x, n) -> x.scoreOf(n, 1), 6, n -> n == 2 ? 7 : NONE);
        Twins.numbers("scoreOf of nobody", SkiSchool::new, (x, n) -> x.scoreOf(n, 0), 0, n -> 0);
    }

    @Edge(promise = 12, says = "BAD if there is no such pupil or exercise is out of range")
    static void scoreOfExercises() {
        int[] due = {NONE, 7, NONE, 0};
        Twins.range("scoreOf(exercise)", Schools::busy, (x, e) -> x.scoreOf(2, e), 0, 3, e -> due[e]);
        Twins.noTrace("pupil and exercise", Schools::busy, x -> x.scoreOf(6, 4), BAD);
    }

    @Edge(promise = 12, says = "Returns the score, NONE if there is none")
    static void score0IsNotNone() {
        SkiSchool x = Schools.of("p3a;");
        Check.due("before", x.scoreOf(0, 0), NONE);
        x.score(0, 0, 0);
        Check.due("score 0", x.scoreOf(0, 0), 0);
        x.score(0, 0, 10);
        Check.due("score 10", x.scoreOf(0, 0), 10);
    }

    @Edge(promise = 12, says = "BAD if there is no such pupil")
    static void scoreOfARemovedPupil() {
        SkiSchool x = Schools.of("p3a;p3a;");
        x.score(0, 0, 5);
        x.removePupil(0);
        Check.due("scoreOf", x.scoreOf(0, 0), BAD);
        Check.due("the other one", x.scoreOf(1, 0), NONE);
    }

    // ---- Promise 13: setMarks

    @Edge(promise = 13, says = "`pass`: the pass mark, 0 to 40")
    static void setMarksPass() {
        Twins.range("setMarks(pass)", Schools::busy, (x, pass) -> x.setMarks(pass, 5, 0), 0, 40, pass -> 20);
    }

    @Edge(promise = 13, says = "`minimum`: the minimum, 0 to 10")
    static void setMarksMinimum() {
        Twins.range("setMarks(minimum)", Schools::busy, (x, minimum) -> x.setMarks(25, minimum, 5), 0, 10, minimum -> 20);
    }

    @Edge(promise = 13, says = "`drop`: the drop mark, 0 to pass")
    static void setMarksDrop() {
        Twins.range("setMarks(40, 5, drop)", Schools::busy, (x, drop) -> x.setMarks(40, 5, drop), 0, 40, drop -> 20);
        Twins.range("setMarks(17, 5, drop)", Schools::busy, (x, drop) -> x.setMarks(17, 5, drop), 0, 17, drop -> 20);
        Twins.range("setMarks(1, 5, drop)", Schools::busy, (x, drop) -> x.setMarks(1, 5, drop), 0, 1, drop -> 20);
        Twins.range("setMarks(0, 5, drop)", Schools::busy, (x, drop) -> x.setMarks(0, 5, drop), 0, 0, drop -> 20);
    }

    @Edge(promise = 13, says = "`drop`: the drop mark, 0 to pass")
    static void dropIsHeldAgainstTheNewPassMark() {
        SkiSchool x = new SkiSchool();
        Check.due("over the old pass mark", x.setMarks(40, 0, 40), 24);
        Check.due("under the old, over the new", x.setMarks(10, 0, 11), BAD);
        Check.due("the pass mark is as before", x.setMarks(10, 0, 10), 40);
    }

    @Edge(promise = 13, says = "BAD if an argument is out of range")
    static void setMarksWithSeveralArgumentsOutOfRange() {
        Twins.noTrace("pass and minimum", Schools::busy, x -> x.setMarks(41, 11, 0), BAD);
        Twins.noTrace("minimum and drop", Schools::busy, x -> x.setMarks(30, -1, 31), BAD);
        Twins.noTrace("pass and drop", Schools::busy, x -> x.setMarks(-1, 0, -1), BAD);
    }

    @Edge(promise = 13, says = "Returns the previous pass mark")
    static void setMarksReturnsThePrevious() {
        SkiSchool x = new SkiSchool();
        Check.due("the initial one", x.setMarks(40, 10, 0), 24);
        Check.due("the highest", x.setMarks(0, 0, 0), 40);
        Check.due("the lowest", x.setMarks(0, 0, 0), 0);
    }

    @Edge(promise = 13, says = "Sets the three marks for the tests.")
    static void marksCountWhenTheTestIsGraded() {
        SkiSchool x = tested(40, 10, 0, 5, 5, 5, 5);
        x.setMarks(20, 5, 0);
        Check.due("grade", x.grade(0), 4);
    }

    // ---- Promise 14: grade

    @Edge(promise = 14, says = "BAD if there is no such pupil")
    static void gradeNumbers() {
        Supplier<SkiSchool> all = () -> {
            SkiSchool x = Schools.of("p3a;".repeat(20));
            for (int n = 0; n < 20; n++) {
                Check.scores(x, n, 9, 9, 9, 9);
            }
            return x;
        };
        Twins.numbers("grade", all, SkiSchool::grade, 20, n -> 4);
        Twins.numbers("grade of nobody", SkiSchool::new, SkiSchool::grade, 0, n -> 0);
    }

    @Edge(promise = 14, says = "BAD if there is no such pupil")
    static void gradeOfARemovedPupil() {
        SkiSchool x = tested(24, 4, 8, 9, 9, 9, 9);
        x.removePupil(0);
        Check.due("grade", x.grade(0), BAD);
    }

    @Edge(promise = 14, says = "STATE if the pupil does not have all four scores")
    static void gradeWithoutScores() {
        Twins.noTrace("grade", () -> Schools.assigned("g3a1;p3a;"), x -> x.grade(0), STATE);
    }

    @Edge(promise = 14, says = "STATE if the pupil does not have all four scores")
    static void gradeWithOneScoreMissing() {
        for (int missing = 0; missing < 4; missing++) {
            int left = missing;
            Supplier<SkiSchool> three = () -> {
                SkiSchool x = Schools.assigned("g3a1;p3a;");
                for (int e = 0; e < 4; e++) {
                    Check.holds("score", e == left || x.score(0, e, 10) > 0);
                }
                return x;
            };
            Twins.noTrace("grade without exercise " + missing, three, x -> x.grade(0), STATE);
            SkiSchool x = three.get();
            x.score(0, missing, 0);
            Check.due("with all four", x.grade(0), 3);
        }
    }

    @Edge(promise = 14, says = "STATE if the pupil does not have all four scores, or has been graded on this day")
    static void gradeTwiceOnDay0() {
        Supplier<SkiSchool> once = () -> {
            SkiSchool x = Schools.assigned("g3a1;p3a;");
            Check.scores(x, 0, 9, 9, 9, 9);
            Check.due("grade", x.grade(0), 4);
            Check.scores(x, 0, 9, 9, 9, 9);
            return x;
        };
        Twins.noTrace("grade", once, x -> x.grade(0), STATE);
        SkiSchool x = once.get();
        x.nextDay();
        Check.due("on the next day", x.grade(0), 5);
    }

    @Edge(promise = 14, says = "has been graded on this day")
    static void gradeTwiceOnALaterDay() {
        SkiSchool x = tested(24, 4, 8, 9, 9, 9, 9);
        for (int day = 1; day <= 4; day++) {
            x.nextDay();
            Check.scores(x, 0, 9, 9, 9, 9);
            Check.due("grade on day " + day, x.grade(0), 3 + day);
            Check.scores(x, 0, 9, 9, 9, 9);
            Check.due("again", x.grade(0), STATE);
        }
    }

    @Edge(promise = 0, says = "A pupil who has all four scores can be graded, but at most once on each day.")
    static void aGradeThatWasRefusedDoesNotCount() {
        SkiSchool x = Schools.of("p3a;");
        Check.due("no scores", x.grade(0), STATE);
        Check.scores(x, 0, 9, 9, 9, 9);
        Check.due("on the same day", x.grade(0), 4);
    }

    @Edge(promise = 0, says = "but at most once on each day")
    static void eachPupilOnceOnTheSameDay() {
        SkiSchool x = Schools.of("p3a;p3a;");
        Check.scores(x, 0, 9, 9, 9, 9);
        Check.scores(x, 1, 9, 9, 9, 9);
        Check.due("grade", x.grade(0), 4);
        Check.due("grade", x.grade(1), 4);
    }

    @Edge(promise = 0, says = "but at most once on each day")
    static void aNewPupilWithTheNumberOfAGradedOne() {
        SkiSchool x = tested(24, 4, 8, 9, 9, 9, 9);
        x.grade(0);
        x.removePupil(0);
        Schools.add(x, "p3a;");
        Check.scores(x, 0, 9, 9, 9, 9);
        Check.due("grade on the same day", x.grade(0), 4);
    }

    @Edge(promise = 0, says = "The first day is day 0.")
    static void gradeOnTheFirstDay() {
        Check.due("grade", graded(24, 4, 8, 6, 6, 6, 6), 4);
    }

    @Edge(promise = 0, says = "The pupil passes if the sum of the four scores is at least the pass mark")
    static void theSumAtThePassMarkAndUnderIt() {
        Check.due("24 of 24", graded(24, 4, 8, 6, 6, 6, 6), 4);
        Check.due("23 of 24", graded(24, 4, 8, 6, 6, 6, 5), 3);
        Check.due("25 of 24", graded(24, 4, 8, 6, 6, 6, 7), 4);
        Check.due("40 of 40", graded(40, 0, 0, 10, 10, 10, 10), 4);
        Check.due("39 of 40", graded(40, 0, 0, 10, 10, 9, 10), 3);
        Check.due("0 of 0", graded(0, 0, 0, 0, 0, 0, 0), 4);
        Check.due("0 of 1", graded(1, 0, 0, 0, 0, 0, 0), 3);
        Check.due("1 of 1", graded(1, 0, 0, 0, 0, 1, 0), 4);
    }

    @Edge(promise = 0, says = "and each of them is at least the minimum")
    static void eachScoreAtTheMinimumAndUnderIt() {
        for (int e = 0; e < 4; e++) {
            int[] scores = {10, 10, 10, 10};
            scores[e] = 4;
            Check.due("exercise " + e + " at the minimum", graded(24, 4, 8, scores), 4);
            scores[e] = 3;
            Check.due("exercise " + e + " under it", graded(24, 4, 8, scores), 3);
        }
    }

    @Edge(promise = 0, says = "a minimum (0 to 10, initially 4)")
    static void theLowestAndTheHighestMinimum() {
        Check.due("minimum 0", graded(24, 0, 8, 0, 10, 10, 10), 4);
        Check.due("minimum 1", graded(24, 1, 8, 0, 10, 10, 10), 3);
        Check.due("minimum 10", graded(24, 10, 8, 10, 10, 10, 10), 4);
        Check.due("one under 10", graded(24, 10, 8, 10, 10, 9, 10), 3);
    }

    @Edge(promise = 0, says = "A pupil who passes gets the next higher level, except at level 7, which stays 7.")
    static void passingAtEachLevel() {
        for (int level = 0; level <= 7; level++) {
            SkiSchool x = Schools.of("p" + level + "a;");
            Check.scores(x, 0, 10, 10, 10, 10);
            Check.due("grade at level " + level, x.grade(0), level == 7 ? 7 : level + 1);
            Check.due("level", x.level(0), level == 7 ? 7 : level + 1);
        }
    }

    @Edge(promise = 0, says = "gets the next lower level, except at level 0, which stays 0")
    static void droppingAtEachLevel() {
        for (int level = 0; level <= 7; level++) {
            SkiSchool x = Schools.of("p" + level + "a;");
            Check.scores(x, 0, 0, 0, 0, 0);
            Check.due("grade at level " + level, x.grade(0), level == 0 ? 0 : level - 1);
            Check.due("level", x.level(0), level == 0 ? 0 : level - 1);
        }
    }

    @Edge(promise = 0, says = "for whom the sum is less than the drop mark")
    static void theSumAtTheDropMarkAndUnderIt() {
        Check.due("8 of 8", graded(24, 4, 8, 2, 2, 2, 2), 3);
        Check.due("7 of 8", graded(24, 4, 8, 2, 2, 2, 1), 2);
        Check.due("0 of 1", graded(24, 4, 1, 0, 0, 0, 0), 2);
        Check.due("1 of 1", graded(24, 4, 1, 0, 0, 0, 1), 3);
        Check.due("0 of 0", graded(24, 4, 0, 0, 0, 0, 0), 3);
    }

    @Edge(promise = 0, says = "a drop mark (0 to the pass mark, initially 8)")
    static void theDropMarkAtThePassMark() {
        Check.due("39 of 40", graded(40, 10, 40, 10, 10, 10, 9), 2);
        Check.due("40 of 40", graded(40, 10, 40, 10, 10, 10, 10), 4);
        Check.due("20 of 20, under the minimum", graded(20, 5, 20, 4, 6, 5, 5), 3);
        Check.due("19 of 20", graded(20, 5, 20, 4, 5, 5, 5), 2);
        Check.due("0 of 0, under the minimum", graded(0, 1, 0, 0, 0, 0, 0), 3);
    }

    @Edge(promise = 0, says = "In all other cases the level stays as it is.")
    static void betweenTheMarksAtTheEnds() {
        for (int level = 0; level <= 7; level += 7) {
            SkiSchool x = Schools.of("p" + level + "a;");
            Check.scores(x, 0, 4, 4, 4, 4);
            Check.due("grade", x.grade(0), level);
        }
    }

    @Edge(promise = 0, says = "Then the four scores are removed.")
    static void theScoresAreRemovedWhateverTheLevel() {
        String[] pupils = {"p7a;", "p0a;", "p3a;", "p3a;", "p3a;"};
        int[] points = {10, 0, 10, 0, 4};
        for (int n = 0; n < pupils.length; n++) {
            SkiSchool x = Schools.of(pupils[n]);
            Check.scores(x, 0, points[n], points[n], points[n], points[n]);
            x.grade(0);
            for (int e = 0; e < 4; e++) {
                Check.due("scoreOf", x.scoreOf(0, e), NONE);
            }
            x.nextDay();
            Check.due("no scores any more", x.grade(0), STATE);
        }
    }

    @Edge(promise = 0, says = "Then the four scores are removed.")
    static void theScoresOfOthersStay() {
        SkiSchool x = Schools.of("p3a;p3a;");
        Check.scores(x, 0, 9, 9, 9, 9);
        Check.scores(x, 1, 1, 2, 3, 4);
        x.grade(0);
        for (int e = 0; e < 4; e++) {
            Check.due("scoreOf", x.scoreOf(1, e), e + 1);
        }
    }

    @Edge(promise = 0, says = "If the pupil is in a group and does not fit it any more, the pupil leaves it.")
    static void onePastTheEdgeOfTheGroup() {
        for (int level = 1; level <= 5; level++) {
            SkiSchool up = gradedInGroup(level + 1, level, 10);
            Check.due("up to two levels over", up.level(0), level + 2);
            Check.due("group", up.group(0), NONE);
            Check.due("size", up.size(0), 0);
            SkiSchool down = gradedInGroup(level, level + 1, 0);
            Check.due("down to two levels under", down.level(0), level - 1);
            Check.due("group", down.group(0), NONE);
        }
    }

    @Edge(promise = 0, says = "If the pupil is in a group and does not fit it any more, the pupil leaves it.")
    static void upToTheEdgeOfTheGroup() {
        for (int level = 1; level <= 6; level++) {
            Check.due("up to one over", gradedInGroup(level, level, 10).group(0), 0);
            Check.due("down to one under", gradedInGroup(level, level, 0).group(0), 0);
            Check.due("up from one under", gradedInGroup(level - 1, level, 10).outOfLevel(), 0);
            Check.due("down from one over", gradedInGroup(level + 1, level, 0).outOfLevel(), 0);
        }
    }

    @Edge(promise = 0, says = "If the pupil is in a group and does not fit it any more, the pupil leaves it.")
    static void theLevelsThatStayKeepTheGroup() {
        Check.due("7 stays 7 in a group of 6", gradedInGroup(7, 6, 10).group(0), 0);
        Check.due("7 stays 7 in a group of 7", gradedInGroup(7, 7, 10).group(0), 0);
        Check.due("0 stays 0 in a group of 1", gradedInGroup(0, 1, 0).group(0), 0);
        Check.due("0 stays 0 in a group of 0", gradedInGroup(0, 0, 0).group(0), 0);
        Check.due("4 points keep level 4 in a group of 3", gradedInGroup(4, 3, 4).group(0), 0);
    }

    @Edge(promise = 0, says = "If the pupil is in a group and does not fit it any more, the pupil leaves it.")
    static void aPupilWithoutAGroupStaysWithoutOne() {
        SkiSchool x = Schools.of("g4a1;p3a;");
        Check.scores(x, 0, 10, 10, 10, 10);
        Check.due("grade", x.grade(0), 4);
        Check.due("group", x.group(0), NONE);
    }

    private static SkiSchool familyInGroup3(boolean kept, String family) {
        SkiSchool x = Schools.of("g3a6;p3a/0;" + family);
        x.setTogether(2, kept);
        x.assign();
        return x;
    }

    private static void pass(SkiSchool x, int pupil) {
        Check.scores(x, pupil, 10, 10, 10, 10);
        x.grade(pupil);
    }

    @Edge(promise = 0, says = "If a call of addPupil, grade or setTogether would break this rule")
    static void gradeSeparatesAKeptFamily() {
        SkiSchool x = familyInGroup3(true, "p3a/2;p2a/2;p4a/2;");
        pass(x, 1);
        Check.due("it still fits, all stay", x.placed(), 4);
        pass(x, 3);
        for (int n = 1; n <= 3; n++) {
            Check.due("group(" + n + ")", x.group(n), NONE);
        }
        Check.due("another family stays", x.group(0), 0);
    }

    @Edge(promise = 0, says = "If a call of addPupil, grade or setTogether would break this rule")
    static void gradeOfAFreeFamilyConcernsOnePupil() {
        SkiSchool x = familyInGroup3(false, "p3a/2;p2a/2;p4a/2;");
        pass(x, 3);
        Check.due("one leaves", x.placed(), 3);
        Check.due("group", x.group(3), NONE);
    }

    @Edge(promise = 0, says = "If a call of addPupil, grade or setTogether would break this rule")
    static void gradeOfThePupilWithTheGreatestNumber() {
        SkiSchool x = Schools.of("g3a6;p3a/0;" + "p0a;".repeat(18) + "p4a/0;");
        x.setTogether(0, true);
        Check.due("assign", x.assign(), 2);
        pass(x, 19);
        Check.due("the last one leaves", x.group(19), NONE);
        Check.due("the first one leaves", x.group(0), NONE);
    }

    @Edge(promise = 0, says = "If a call of addPupil, grade or setTogether would break this rule")
    static void gradeOfTheOnlyMemberOfAKeptFamily() {
        SkiSchool x = familyInGroup3(true, "p4a/2;p3a;");
        pass(x, 1);
        Check.due("it leaves", x.group(1), NONE);
        Check.due("the others stay", x.placed(), 2);
    }

    @Edge(promise = 0, says = "If a call of addPupil, grade or setTogether would break this rule")
    static void gradeOfAPupilWithoutAFamily() {
        SkiSchool x = familyInGroup3(true, "p3a/2;p3a/2;p4a;p3a;");
        pass(x, 3);
        Check.due("it leaves alone", x.placed(), 4);
        Check.due("group", x.group(4), 0);
    }

    @Edge(promise = 14, says = "Returns the level of the pupil then")
    static void gradeReturnsTheLevelOfAPupilWhoLeaves() {
        SkiSchool x = Schools.assigned("g6a1;p7a;g1a1;p0a;p5b;");
        Check.scores(x, 0, 0, 0, 0, 0);
        Check.scores(x, 1, 10, 10, 10, 10);
        Check.scores(x, 2, 4, 4, 4, 4);
        Check.due("from 7", x.grade(0), 6);
        Check.due("from 0", x.grade(1), 1);
        Check.due("without a group", x.grade(2), 5);
    }

    // ---- Promise 15: nextDay

    @Edge(promise = 15, says = "Returns the number of the new day")
    static void theDaysFrom1To512() {
        SkiSchool x = new SkiSchool();
        for (int day = 1; day <= 512; day++) {
            Check.due("nextDay", x.nextDay(), day);
        }
    }

    @Edge(promise = 15, says = "Begins the next day.")
    static void aNewDayChangesNothingElse() {
        SkiSchool x = Schools.busy();
        SkiSchool y = Schools.busy();
        Check.due("nextDay", x.nextDay(), 2);
        Check.due("pupils", x.pupils(), y.pupils());
        Check.due("placed", x.placed(), y.placed());
        Check.due("scoreOf", x.scoreOf(2, 1), 7);
        Check.due("waited", x.waited(0), y.waited(0));
        Check.due("earnings", x.earnings(0), y.earnings(0));
        Check.due("clearText", x.clearText(), y.clearText());
        Check.due("setMarks", x.setMarks(0, 0, 0), 20);
    }
}
