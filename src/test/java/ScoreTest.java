/** Promises 11 to 15: scores, marks, grading and days. */
public final class ScoreTest {
    private static final int NONE = SkiSchool.NONE, BAD = SkiSchool.BAD, STATE = SkiSchool.STATE;

    public static void main(String[] args) {
        score();
        setMarks();
        gradeByMarks();
        gradeAtTheEnds();
        gradeOncePerDay();
        gradeErrors();
        gradeLeavesGroup();
        gradeBreaksFamily();
        nextDay();
        Check.end();
    }

    private static void score() {
        SkiSchool x = new SkiSchool();
        Check.due("no pupil", x.score(0, 0, 0), BAD);
        Check.due("no pupil", x.scoreOf(0, 0), BAD);
        x.addPupil(3, 1, NONE);
        x.addPupil(3, 1, NONE);
        for (int e = 0; e < 4; e++) {
            Check.due("scoreOf", x.scoreOf(0, e), NONE);
        }
        Check.due("score", x.score(0, 3, 0), 1);
        Check.due("score", x.score(0, 0, 10), 2);
        Check.due("in place of it", x.score(0, 3, 7), 2);
        Check.due("scoreOf", x.scoreOf(0, 3), 7);
        Check.due("scoreOf", x.scoreOf(0, 0), 10);
        Check.due("scoreOf", x.scoreOf(0, 1), NONE);
        Check.due("the other pupil", x.scoreOf(1, 3), NONE);
        Check.due("score", x.score(0, 1, 0), 3);
        Check.due("score", x.score(0, 2, 0), 4);
        Check.due("0 is a score", x.scoreOf(0, 2), 0);
        long before = x.digest();
        int[] wrongPupils = {-1, 2, 20, NONE};
        for (int pupil : wrongPupils) {
            Check.due("pupil", x.score(pupil, 0, 1), BAD);
            Check.due("pupil", x.scoreOf(pupil, 0), BAD);
        }
        int[] wrongExercises = {-1, 4, NONE, Integer.MAX_VALUE};
        for (int exercise : wrongExercises) {
            Check.due("exercise", x.score(0, exercise, 1), BAD);
            Check.due("exercise", x.scoreOf(0, exercise), BAD);
        }
        Check.due("points -1", x.score(0, 0, -1), BAD);
        Check.due("points 11", x.score(0, 0, 11), BAD);
        Check.due("points NONE", x.score(0, 0, NONE), BAD);
        Check.due("digest", x.digest(), before);
    }

    private static void setMarks() {
        SkiSchool x = new SkiSchool();
        Check.due("pass -1", x.setMarks(-1, 0, 0), BAD);
        Check.due("pass 41", x.setMarks(41, 0, 0), BAD);
        Check.due("minimum -1", x.setMarks(20, -1, 0), BAD);
        Check.due("minimum 11", x.setMarks(20, 11, 0), BAD);
        Check.due("drop -1", x.setMarks(20, 0, -1), BAD);
        Check.due("drop over pass", x.setMarks(20, 0, 21), BAD);
        Check.due("nothing has changed", x.setMarks(40, 10, 40), 24);
        Check.due("setMarks", x.setMarks(0, 0, 0), 40);
        Check.due("drop over pass", x.setMarks(0, 0, 1), BAD);
        Check.due("setMarks", x.setMarks(17, 10, 17), 0);
        Check.due("setMarks", x.setMarks(1, 1, 1), 17);
    }

    private static int graded(int pass, int minimum, int drop, int a, int b, int c, int d) {
        SkiSchool x = new SkiSchool();
        x.addPupil(3, 1, NONE);
        if (pass >= 0) {
            x.setMarks(pass, minimum, drop);
        }
        Check.scores(x, 0, a, b, c, d);
        int level = x.grade(0);
        Check.due("level after grade", x.level(0), level);
        for (int e = 0; e < 4; e++) {
            Check.due("the scores are removed", x.scoreOf(0, e), NONE);
        }
        return level;
    }

    private static void gradeByMarks() {
        Check.due("sum 24, minimum 4", graded(-1, 0, 0, 4, 10, 6, 4), 4);
        Check.due("sum 23", graded(-1, 0, 0, 4, 10, 5, 4), 3);
        Check.due("one under the minimum", graded(-1, 0, 0, 10, 10, 10, 3), 3);
        Check.due("first under the minimum", graded(-1, 0, 0, 3, 10, 10, 10), 3);
        Check.due("sum 8", graded(-1, 0, 0, 2, 2, 2, 2), 3);
        Check.due("sum 7", graded(-1, 0, 0, 2, 2, 2, 1), 2);
        Check.due("no marks", graded(0, 0, 0, 0, 0, 0, 0), 4);
        Check.due("pass 0, minimum 1", graded(0, 1, 0, 0, 0, 0, 0), 3);
        Check.due("best", graded(40, 10, 40, 10, 10, 10, 10), 4);
        Check.due("not best", graded(40, 10, 40, 10, 10, 10, 9), 2);
        Check.due("drop is pass, minimum fails", graded(20, 5, 20, 4, 6, 6, 4), 3);
        Check.due("drop is pass, sum fails", graded(20, 0, 20, 5, 5, 5, 4), 2);
        Check.due("between", graded(20, 0, 15, 5, 5, 5, 0), 3);
    }

    private static void gradeAtTheEnds() {
        SkiSchool x = new SkiSchool();
        x.addPupil(7, 1, NONE);
        x.addPupil(0, 1, NONE);
        x.addPupil(6, 1, NONE);
        x.addPupil(1, 1, NONE);
        Check.scores(x, 0, 10, 10, 10, 10);
        Check.scores(x, 1, 0, 0, 0, 0);
        Check.scores(x, 2, 10, 10, 10, 10);
        Check.scores(x, 3, 0, 0, 0, 0);
        Check.due("7 stays 7", x.grade(0), 7);
        Check.due("0 stays 0", x.grade(1), 0);
        Check.due("6 becomes 7", x.grade(2), 7);
        Check.due("1 becomes 0", x.grade(3), 0);
    }

    private static void gradeOncePerDay() {
        SkiSchool x = new SkiSchool();
        x.addPupil(3, 1, NONE);
        x.addPupil(3, 1, NONE);
        Check.scores(x, 0, 10, 10, 10, 10);
        Check.due("grade on day 0", x.grade(0), 4);
        Check.scores(x, 0, 10, 10, 10, 10);
        long before = x.digest();
        Check.due("graded on this day", x.grade(0), STATE);
        Check.due("digest", x.digest(), before);
        Check.scores(x, 1, 0, 0, 0, 0);
        Check.due("another pupil", x.grade(1), 2);
        x.nextDay();
        Check.due("the scores are still there", x.scoreOf(0, 3), 10);
        Check.due("grade on day 1", x.grade(0), 5);
        Check.due("no scores", x.grade(0), STATE);
        x.removePupil(0);
        x.addPupil(3, 1, NONE);
        Check.scores(x, 0, 10, 10, 10, 10);
        Check.due("a new pupil with the same number", x.grade(0), 4);
    }

    private static void gradeErrors() {
        SkiSchool x = new SkiSchool();
        Check.due("no pupil", x.grade(0), BAD);
        x.addPupil(3, 1, NONE);
        Check.due("-1", x.grade(-1), BAD);
        Check.due("1", x.grade(1), BAD);
        Check.due("20", x.grade(20), BAD);
        Check.due("no scores", x.grade(0), STATE);
        x.score(0, 0, 10);
        x.score(0, 1, 10);
        x.score(0, 3, 10);
        Check.due("three scores", x.grade(0), STATE);
        Check.due("level", x.level(0), 3);
        x.score(0, 2, 10);
        Check.due("four scores", x.grade(0), 4);
    }

    private static void gradeLeavesGroup() {
        SkiSchool x = new SkiSchool();
        x.setMarks(24, 4, 8);
        x.openGroup(3, 0, 6);
        x.addPupil(4, 1, NONE);
        x.addPupil(3, 1, NONE);
        x.addPupil(2, 1, NONE);
        x.assign();
        for (int n = 0; n < 3; n++) {
            Check.scores(x, n, 10, 10, 10, 10);
        }
        Check.due("grade", x.grade(0), 5);
        Check.due("does not fit", x.group(0), NONE);
        Check.due("grade", x.grade(1), 4);
        Check.due("still fits", x.group(1), 0);
        Check.due("grade", x.grade(2), 3);
        Check.due("still fits", x.group(2), 0);
        Check.due("outOfLevel", x.outOfLevel(), 1);
        x.nextDay();
        x.addPupil(2, 1, NONE);
        x.assign();
        Check.scores(x, 3, 0, 0, 0, 0);
        Check.due("grade", x.grade(3), 1);
        Check.due("does not fit", x.group(3), NONE);
        Check.due("size", x.size(0), 2);
    }

    private static void gradeBreaksFamily() {
        SkiSchool x = new SkiSchool();
        x.openGroup(3, 0, 6);
        x.addPupil(4, 1, 2);
        x.addPupil(3, 1, 2);
        x.addPupil(4, 1, 5);
        x.addPupil(3, 1, 5);
        x.setTogether(2, true);
        Check.due("assign", x.assign(), 4);
        for (int n = 0; n < 4; n++) {
            Check.scores(x, n, 10, 10, 10, 10);
        }
        Check.due("still fits", x.grade(1), 4);
        Check.due("all stay", x.placed(), 4);
        Check.due("grade", x.grade(2), 5);
        Check.due("of a free family one leaves", x.placed(), 3);
        Check.due("grade", x.grade(0), 5);
        Check.due("of a kept family all leave", x.group(1), NONE);
        Check.due("the other family stays", x.group(3), 0);
        Check.due("placed", x.placed(), 1);
    }

    private static void nextDay() {
        SkiSchool x = new SkiSchool();
        for (int day = 1; day <= 500; day++) {
            Check.due("nextDay", x.nextDay(), day);
        }
    }
}
