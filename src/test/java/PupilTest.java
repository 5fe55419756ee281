/** Promises 1 to 10: the new object, pupils and families. */
public final class PupilTest {
    private static final int NONE = SkiSchool.NONE, BAD = SkiSchool.BAD, FULL = SkiSchool.FULL;

    public static void main(String[] args) {
        newObject();
        addPupil();
        addPupilOutOfRange();
        addPupilFull();
        addPupilBreaksFamily();
        addPupilAfterRemoval();
        removePupil();
        getters();
        setTogether();
        setTogetherCounts();
        familyStaysWhole();
        spread();
        Check.end();
    }

    private static void newObject() {
        SkiSchool x = new SkiSchool();
        Check.due("pupils", x.pupils(), 0);
        Check.due("groups", x.groups(), 0);
        Check.due("instructors", x.instructors(), 0);
        Check.due("placed", x.placed(), 0);
        Check.due("outOfLevel", x.outOfLevel(), 0);
        Check.due("longestQueue(0)", x.longestQueue(0), BAD);
        Check.due("assign", x.assign(), 0);
        Check.due("staff", x.staff(), 0);
        Check.due("pay", x.pay(1), 0);
        Check.due("simulate", x.simulate(180), 0);
        Check.due("clearText", x.clearText(), 0);
        Check.due("load", x.load(), 0);
        for (int f = 0; f < 8; f++) {
            Check.due("spread", x.spread(f), NONE);
        }
        Check.due("nextDay", x.nextDay(), 1);
        Check.due("setMarks", x.setMarks(1, 1, 1), 24);
        SkiSchool other = new SkiSchool();
        Check.due("the objects share nothing", other.nextDay(), 1);
    }

    private static void addPupil() {
        SkiSchool x = new SkiSchool();
        Check.due("addPupil", x.addPupil(0, 1, NONE), 0);
        Check.due("addPupil", x.addPupil(7, 63, 7), 1);
        Check.due("addPupil", x.addPupil(3, 32, 0), 2);
        Check.due("pupils", x.pupils(), 3);
        x.score(1, 2, 5);
        Check.due("removePupil", x.removePupil(1), 2);
        Check.due("removePupil", x.removePupil(0), 1);
        Check.due("the smallest free number", x.addPupil(4, 5, 6), 0);
        Check.due("the next free number", x.addPupil(2, 9, NONE), 1);
        Check.due("level", x.level(1), 2);
        Check.due("languages", x.languages(1), 9);
        Check.due("family", x.family(1), NONE);
        Check.due("group", x.group(1), NONE);
        Check.due("a new pupil has no scores", x.scoreOf(1, 2), NONE);
        Check.due("addPupil", x.addPupil(4, 5, 6), 3);
    }

    private static void addPupilOutOfRange() {
        SkiSchool x = new SkiSchool();
        long before = x.digest();
        Check.due("level -1", x.addPupil(-1, 1, NONE), BAD);
        Check.due("level 8", x.addPupil(8, 1, NONE), BAD);
        Check.due("languages 0", x.addPupil(0, 0, NONE), BAD);
        Check.due("languages 64", x.addPupil(0, 64, NONE), BAD);
        Check.due("languages negative", x.addPupil(0, Integer.MIN_VALUE, NONE), BAD);
        Check.due("family -1", x.addPupil(0, 1, -1), BAD);
        Check.due("family 8", x.addPupil(0, 1, 8), BAD);
        Check.due("family -8", x.addPupil(0, 1, -8), BAD);
        Check.due("family -10", x.addPupil(0, 1, -10), BAD);
        Check.due("family MAX", x.addPupil(0, 1, Integer.MAX_VALUE), BAD);
        Check.due("digest", x.digest(), before);
    }

    private static void addPupilFull() {
        SkiSchool x = new SkiSchool();
        for (int n = 0; n < 20; n++) {
            Check.due("addPupil", x.addPupil(n % 8, 1 + n, n % 8), n);
        }
        long before = x.digest();
        Check.due("full", x.addPupil(0, 1, NONE), FULL);
        Check.due("BAD goes first", x.addPupil(8, 1, NONE), BAD);
        Check.due("digest", x.digest(), before);
        Check.due("removePupil", x.removePupil(19), 19);
        Check.due("addPupil", x.addPupil(0, 1, NONE), 19);
    }

    /** A new member has no group, so the other members of a kept family leave theirs. */
    private static void addPupilBreaksFamily() {
        SkiSchool x = new SkiSchool();
        x.openGroup(2, 0, 6);
        x.addPupil(2, 1, 4);
        x.addPupil(2, 1, 4);
        x.addPupil(2, 1, 5);
        Check.due("setTogether", x.setTogether(4, true), 0);
        Check.due("assign", x.assign(), 3);
        x.addPupil(2, 1, 5);
        x.addPupil(2, 1, NONE);
        Check.due("a free family stays", x.placed(), 3);
        x.addPupil(2, 1, 4);
        Check.due("group", x.group(0), NONE);
        Check.due("group", x.group(1), NONE);
        Check.due("group", x.group(2), 0);
        Check.due("placed", x.placed(), 1);
    }

    /** Nothing of the pupil who had the number before is left. */
    private static void addPupilAfterRemoval() {
        SkiSchool x = new SkiSchool();
        x.openGroup(2, 0, 6);
        x.addPupil(2, 1, 4);
        Check.due("assign", x.assign(), 1);
        x.score(0, 0, 5);
        x.removePupil(0);
        Check.due("addPupil", x.addPupil(2, 1, NONE), 0);
        Check.due("group", x.group(0), NONE);
        Check.due("scoreOf", x.scoreOf(0, 0), NONE);
        Check.due("placed", x.placed(), 0);
        Check.due("size", x.size(0), 0);
        Check.due("spread", x.spread(4), NONE);
    }

    private static void removePupil() {
        SkiSchool x = new SkiSchool();
        Check.due("none", x.removePupil(0), BAD);
        x.openGroup(2, 0, 6);
        x.addPupil(2, 1, 4);
        x.addPupil(2, 1, 4);
        x.addPupil(2, 1, 4);
        x.setTogether(4, true);
        x.assign();
        Check.due("-1", x.removePupil(-1), BAD);
        Check.due("20", x.removePupil(20), BAD);
        Check.due("3", x.removePupil(3), BAD);
        Check.due("NONE", x.removePupil(NONE), BAD);
        Check.due("removePupil", x.removePupil(1), 2);
        Check.due("again", x.removePupil(1), BAD);
        Check.due("size", x.size(0), 2);
        Check.due("placed", x.placed(), 2);
        Check.due("the others stay", x.group(2), 0);
        Check.due("removePupil", x.removePupil(0), 1);
        Check.due("removePupil", x.removePupil(2), 0);
        Check.due("size", x.size(0), 0);
        Check.due("pupils", x.pupils(), 0);
        Check.due("spread", x.spread(4), NONE);
    }

    private static void getters() {
        SkiSchool x = new SkiSchool();
        x.addPupil(1, 2, 3);
        x.addPupil(7, 63, NONE);
        x.addPupil(0, 4, 0);
        x.openGroup(7, 3, 2);
        x.openGroup(0, 2, 2);
        x.assign();
        Check.due("level", x.level(0), 1);
        Check.due("level", x.level(1), 7);
        Check.due("level", x.level(2), 0);
        Check.due("languages", x.languages(0), 2);
        Check.due("languages", x.languages(1), 63);
        Check.due("family", x.family(0), 3);
        Check.due("family", x.family(1), NONE);
        Check.due("family", x.family(2), 0);
        Check.due("group", x.group(0), NONE);
        Check.due("group", x.group(1), 0);
        Check.due("group", x.group(2), 1);
        int[] wrong = {-1, 3, 19, 20, NONE, Integer.MIN_VALUE, Integer.MAX_VALUE};
        for (int pupil : wrong) {
            Check.due("level", x.level(pupil), BAD);
            Check.due("languages", x.languages(pupil), BAD);
            Check.due("family", x.family(pupil), BAD);
            Check.due("group", x.group(pupil), BAD);
        }
        x.removePupil(1);
        Check.due("level", x.level(1), BAD);
        Check.due("languages", x.languages(1), BAD);
        Check.due("family", x.family(1), BAD);
        Check.due("group", x.group(1), BAD);
    }

    private static void setTogether() {
        SkiSchool x = new SkiSchool();
        Check.due("-1", x.setTogether(-1, true), BAD);
        Check.due("8", x.setTogether(8, true), BAD);
        Check.due("NONE", x.setTogether(NONE, false), BAD);
        Check.due("without members", x.setTogether(0, true), 0);
        Check.due("without members", x.setTogether(7, true), 0);
        x.openGroup(2, 0, 1);
        x.addPupil(2, 1, 7);
        Check.due("assign", x.assign(), 1);
        x.addPupil(2, 1, 7);
        Check.due("it was kept together before it had members", x.placed(), 0);
        Check.due("assign", x.assign(), 0);
        Check.due("free again", x.setTogether(7, false), 0);
        Check.due("assign", x.assign(), 1);
        Check.due("free twice", x.setTogether(7, false), 0);
        Check.due("placed", x.placed(), 1);
        Check.due("one leaves", x.setTogether(7, true), 1);
        Check.due("placed", x.placed(), 0);
    }

    private static void setTogetherCounts() {
        SkiSchool x = new SkiSchool();
        x.openGroup(2, 0, 2);
        x.openGroup(3, 0, 1);
        for (int n = 0; n < 3; n++) {
            x.addPupil(2, 1, 1);
        }
        x.addPupil(2, 1, NONE);
        x.removePupil(3);
        Check.due("assign", x.assign(), 3);
        Check.due("all in two groups", x.setTogether(1, true), 3);
        x.setTogether(1, false);
        x.assign();
        x.removePupil(2);
        Check.due("all in one group", x.setTogether(1, true), 0);
        Check.due("they stay", x.placed(), 2);
        Check.due("kept twice", x.setTogether(1, true), 0);
        Check.due("they stay", x.placed(), 2);
    }

    /** What happens to the group happens to all members of a kept family. */
    private static void familyStaysWhole() {
        SkiSchool x = new SkiSchool();
        x.openGroup(2, 0, 6);
        x.addPupil(2, 1, 1);
        x.addPupil(1, 1, 1);
        x.setTogether(1, true);
        x.assign();
        Check.due("placed", x.placed(), 2);
        Check.due("closeGroup", x.closeGroup(0), 2);
        Check.due("placed", x.placed(), 0);
        Check.due("group", x.group(0), NONE);
    }

    private static void spread() {
        SkiSchool x = new SkiSchool();
        Check.due("-1", x.spread(-1), BAD);
        Check.due("8", x.spread(8), BAD);
        Check.due("NONE", x.spread(NONE), BAD);
        Check.due("none", x.spread(0), NONE);
        x.addPupil(0, 1, NONE);
        Check.due("none", x.spread(0), NONE);
        x.addPupil(4, 1, 0);
        Check.due("one", x.spread(0), 0);
        x.addPupil(7, 1, 0);
        Check.due("two", x.spread(0), 3);
        x.addPupil(0, 1, 0);
        Check.due("three", x.spread(0), 7);
        x.addPupil(6, 1, 7);
        x.addPupil(5, 1, 7);
        Check.due("other family", x.spread(7), 1);
        x.removePupil(2);
        Check.due("two left", x.spread(0), 4);
        x.removePupil(1);
        Check.due("one at level 0", x.spread(0), 0);
        x.removePupil(3);
        Check.due("none left", x.spread(0), NONE);
        x.removePupil(0);
        x.addPupil(2, 1, 0);
        x.addPupil(4, 1, 0);
        Check.due("with pupil 0", x.spread(0), 2);
        x.addPupil(7, 1, 5);
        Check.due("one at level 7", x.spread(5), 0);
        x.addPupil(7, 1, 5);
        Check.due("all at level 7", x.spread(5), 0);
    }
}
