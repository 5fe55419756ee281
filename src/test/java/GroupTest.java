/** Promises 16 to 26: groups and plans. */
public final class GroupTest {
    private static final int NONE = SkiSchool.NONE, BAD = SkiSchool.BAD, FULL = SkiSchool.FULL;
    private static final int[] NO_GROUPS = {-1, 4, NONE, Integer.MIN_VALUE, Integer.MAX_VALUE};

    public static void main(String[] args) {
        openGroup();
        openGroupErrors();
        closeGroup();
        closeGroupForgets();
        getters();
        placedAndOutOfLevel();
        fits();
        assignMost();
        assignInLevel();
        assignSmallestNumbers();
        assignOrdersByPupilNotByCount();
        assignKeepsFamilies();
        assignCountsPupilsNotFamilies();
        assignFamilyTooLarge();
        assignStaysWithInstructors();
        assignFullHouse();
        extraPlaced();
        splitGain();
        Check.end();
    }

    private static SkiSchool with(String roster) {
        SkiSchool x = new SkiSchool();
        Check.holds("the roster " + roster + " is loaded", Check.load(x, roster) > 0);
        x.clearText();
        return x;
    }

    private static void groupsAre(SkiSchool x, String what, int... due) {
        for (int n = 0; n < due.length; n++) {
            Check.due(what + ": group(" + n + ")", x.group(n), due[n]);
        }
    }

    private static void openGroup() {
        SkiSchool x = new SkiSchool();
        Check.due("openGroup", x.openGroup(0, 0, 1), 0);
        Check.due("openGroup", x.openGroup(7, 5, 6), 1);
        Check.due("openGroup", x.openGroup(3, 2, 4), 2);
        Check.due("openGroup", x.openGroup(3, 2, 4), 3);
        Check.due("groups", x.groups(), 4);
        long before = x.digest();
        Check.due("full", x.openGroup(3, 2, 4), FULL);
        Check.due("BAD goes first", x.openGroup(8, 2, 4), BAD);
        Check.due("digest", x.digest(), before);
        x.closeGroup(2);
        x.closeGroup(1);
        Check.due("groups", x.groups(), 2);
        Check.due("the smallest free number", x.openGroup(5, 1, 2), 1);
        Check.due("groupLevel", x.groupLevel(1), 5);
        Check.due("size", x.size(1), 0);
        Check.due("instructor", x.instructor(1), NONE);
        Check.due("setStart", x.setStart(1, 7), 0);
        Check.due("clearStops", x.clearStops(1), 0);
    }

    private static void openGroupErrors() {
        SkiSchool x = new SkiSchool();
        Check.due("level -1", x.openGroup(-1, 0, 1), BAD);
        Check.due("level 8", x.openGroup(8, 0, 1), BAD);
        Check.due("language -1", x.openGroup(0, -1, 1), BAD);
        Check.due("language 6", x.openGroup(0, 6, 1), BAD);
        Check.due("capacity 0", x.openGroup(0, 0, 0), BAD);
        Check.due("capacity 7", x.openGroup(0, 0, 7), BAD);
        Check.due("capacity MIN", x.openGroup(0, 0, Integer.MIN_VALUE), BAD);
        Check.due("groups", x.groups(), 0);
    }

    private static void closeGroup() {
        SkiSchool x = with("p1a;p1a;p1a;p1a;g1a2;g1a1;ia07:5;ia07:6;");
        Check.due("assign", x.assign(), 3);
        Check.due("staff", x.staff(), 11);
        Check.due("closeGroup", x.closeGroup(0), 2);
        Check.due("again", x.closeGroup(0), BAD);
        groupsAre(x, "after closeGroup", NONE, NONE, 1, NONE);
        Check.due("groups", x.groups(), 1);
        Check.due("size", x.size(0), BAD);
        Check.due("placed", x.placed(), 1);
        Check.due("its instructor has no group", x.dismiss(0), NONE);
        Check.due("the other has", x.dismiss(1), 1);
        Check.due("closeGroup", x.closeGroup(1), 1);
        Check.due("groups", x.groups(), 0);
        for (int group : NO_GROUPS) {
            Check.due("no such group", x.closeGroup(group), BAD);
        }
    }

    /** A group that is opened with the number of a closed one begins anew. */
    private static void closeGroupForgets() {
        SkiSchool x = with("p1a;p1a;p1a;g1a3;g4b3;ia07:5;");
        x.addLift(1, 2, 1);
        x.addStop(0, 0, 1);
        x.setStart(0, 1);
        x.assign();
        x.staff();
        Check.holds("the group waits", x.simulate(30) > 0);
        Check.holds("the group waited", x.waited(0) > 0);
        Check.holds("the group rode", x.rides(0) > 0);
        int carried = x.carried(0);
        int longest = x.longestQueue(0);
        Check.due("closeGroup", x.closeGroup(0), 3);
        Check.due("waited", x.waited(0), BAD);
        Check.due("openGroup", x.openGroup(1, 0, 3), 0);
        Check.due("waited", x.waited(0), 0);
        Check.due("rides", x.rides(0), 0);
        Check.due("carried", x.carried(0), carried);
        Check.due("longestQueue", x.longestQueue(0), longest);
        Check.due("instructor", x.instructor(0), NONE);
        Check.due("clearStops", x.clearStops(0), 0);
        Check.due("setStart", x.setStart(0, 1), 0);
    }

    private static void getters() {
        SkiSchool x = with("g0a1;g7f6;p7f;p6f;");
        x.assign();
        Check.due("groups", x.groups(), 2);
        Check.due("groupLevel", x.groupLevel(0), 0);
        Check.due("groupLevel", x.groupLevel(1), 7);
        Check.due("size", x.size(0), 0);
        Check.due("size", x.size(1), 2);
        Check.due("instructor", x.instructor(0), NONE);
        Check.due("groupLevel(2)", x.groupLevel(2), BAD);
        Check.due("size(2)", x.size(2), BAD);
        Check.due("instructor(2)", x.instructor(2), BAD);
        for (int group : NO_GROUPS) {
            Check.due("groupLevel", x.groupLevel(group), BAD);
            Check.due("size", x.size(group), BAD);
            Check.due("instructor", x.instructor(group), BAD);
        }
    }

    private static void placedAndOutOfLevel() {
        SkiSchool x = with("g3a6;p2a;p3a;p4a;p5a;");
        Check.due("placed", x.placed(), 0);
        Check.due("outOfLevel", x.outOfLevel(), 0);
        Check.due("assign", x.assign(), 3);
        Check.due("placed", x.placed(), 3);
        Check.due("outOfLevel", x.outOfLevel(), 2);
        x.removePupil(0);
        Check.due("placed", x.placed(), 2);
        Check.due("outOfLevel", x.outOfLevel(), 1);
        x.closeGroup(0);
        Check.due("placed", x.placed(), 0);
        Check.due("outOfLevel", x.outOfLevel(), 0);
    }

    private static void fits() {
        for (int level = 0; level <= 7; level++) {
            for (int language = 0; language < 6; language++) {
                SkiSchool x = new SkiSchool();
                x.openGroup(level, language, 6);
                for (int n = 0; n < 8; n++) {
                    x.addPupil(n, 63 ^ 1 << language, NONE);
                }
                Check.due("no pupil speaks it", x.assign(), 0);
                for (int n = 0; n < 8; n++) {
                    x.addPupil(n, 1 << language, NONE);
                }
                Check.due("assign", x.assign(), level == 0 || level == 7 ? 2 : 3);
                for (int n = 0; n < 8; n++) {
                    Check.due("group", x.group(8 + n), Math.abs(n - level) <= 1 ? 0 : NONE);
                }
            }
        }
    }

    private static void assignMost() {
        SkiSchool x = with("g3a1;g3b1;p3ab;p3a;p3ab;");
        Check.due("assign", x.assign(), 2);
        groupsAre(x, "the smallest pupil has the smallest group", 0, NONE, 1);
        x.removePupil(1);
        Check.due("assign", x.assign(), 2);
        Check.due("whatever groups they had", x.group(0), 0);
        Check.due("group", x.group(2), 1);
        SkiSchool chain = with("g1a1;g2a1;g3a1;g4a1;p2a;p3a;p3a;p4a;");
        Check.due("a chain", chain.assign(), 4);
    }

    private static void assignInLevel() {
        SkiSchool x = with("g3a2;g4a2;p4a;p3a;");
        Check.due("assign", x.assign(), 2);
        groupsAre(x, "own levels before small numbers", 1, 0);
        SkiSchool y = with("g4a1;g5a1;p3a;p4a;p5a;");
        Check.due("assign", y.assign(), 2);
        groupsAre(y, "own levels before small pupils", NONE, 0, 1);
        SkiSchool z = with("g4a2;g5a1;p3a;p4a;p5a;");
        Check.due("more pupils before own levels", z.assign(), 3);
        groupsAre(z, "all", 0, 0, 1);
        SkiSchool w = with("g4a1;g5a1;p3a;p4a;");
        Check.due("more pupils before own levels", w.assign(), 2);
        Check.due("outOfLevel", w.outOfLevel(), 2);
        groupsAre(w, "both out of level", 0, 1);
    }

    private static void assignSmallestNumbers() {
        SkiSchool x = with("g3a2;g3a2;g3a2;p3a;p3a;p3a;p3a;p3a;");
        Check.due("assign", x.assign(), 5);
        groupsAre(x, "small numbers first", 0, 0, 1, 1, 2);
        SkiSchool y = with("g3a2;p3a;p3a;p3a;");
        Check.due("assign", y.assign(), 2);
        groupsAre(y, "none counts as greater", 0, 0, NONE);
    }

    private static void assignOrdersByPupilNotByCount() {
        SkiSchool x = with("g3a1;g3a3;p3a;p3a;p3a;p3a;");
        x.assign();
        groupsAre(x, "the smallest pupil gets the smallest group", 0, 1, 1, 1);
        x.removePupil(0);
        x.assign();
        Check.due("group(1)", x.group(1), 0);
        x.addPupil(3, 1, NONE);
        x.assign();
        groupsAre(x, "a late pupil with number 0", 0, 1, 1, 1);
    }

    private static void assignKeepsFamilies() {
        SkiSchool x = with("g3a2;g3a3;p3a/1;p3a/2;p3a/1;p3a/2;p3a/1;");
        x.setTogether(1, true);
        x.setTogether(2, true);
        Check.due("assign", x.assign(), 5);
        groupsAre(x, "each family in one group", 1, 0, 1, 0, 1);
        x.addPupil(5, 1, 2);
        Check.due("a member fits no group", x.assign(), 3);
        groupsAre(x, "the other family", 1, NONE, 1, NONE, 1, NONE);
        x.setTogether(2, false);
        Check.due("assign", x.assign(), 5);
        x.setTogether(2, true);
        x.setTogether(1, false);
        Check.due("one kept, one free", x.assign(), 3);
        groupsAre(x, "the free family spreads", 0, NONE, 0, NONE, 1, NONE);
    }

    private static void assignCountsPupilsNotFamilies() {
        SkiSchool x = with("g3a2;p3a;p3a;p3a/0;p3a/0;");
        x.setTogether(0, true);
        Check.due("assign", x.assign(), 2);
        groupsAre(x, "two alone are as good as a family of two", 0, 0, NONE, NONE);
        SkiSchool y = with("g3a2;p3a;p4a;p4a/0;p3a/0;p3a/1;p3a/1;");
        y.setTogether(0, true);
        y.setTogether(1, true);
        Check.due("assign", y.assign(), 2);
        groupsAre(y, "own levels are counted by pupils", NONE, NONE, NONE, NONE, 0, 0);
    }

    private static void assignFamilyTooLarge() {
        SkiSchool x = with("g3a6;g3a6;p3a/0;p3a/0;p3a/0;p3a/0;p3a/0;p3a/0;p3a/0;p3a;");
        x.setTogether(0, true);
        Check.due("seven in a group of six", x.assign(), 1);
        Check.due("group", x.group(7), 0);
        x.removePupil(3);
        Check.due("six in a group of six", x.assign(), 7);
        groupsAre(x, "the family has the smaller pupils", 0, 0, 0, BAD, 0, 0, 0, 1);
    }

    private static void assignStaysWithInstructors() {
        SkiSchool x = with("p1a;g1a1;g1a1;ia07:5;ia07:6;");
        x.assign();
        x.staff();
        Check.due("instructor", x.instructor(0), 0);
        x.removePupil(0);
        Check.due("assign", x.assign(), 0);
        Check.due("the instructor stays", x.instructor(0), 0);
        Check.due("size", x.size(0), 0);
    }

    private static void assignFullHouse() {
        SkiSchool x = with("g3a6;g3a6;g3a6;g3a6;");
        for (int n = 0; n < 20; n++) {
            x.addPupil(3, 1, n % 2 == 0 ? n / 5 : NONE);
        }
        Check.due("assign", x.assign(), 20);
        for (int n = 0; n < 20; n++) {
            Check.due("group", x.group(n), n / 6);
        }
        for (int f = 0; f < 4; f++) {
            x.setTogether(f, true);
        }
        Check.due("assign", x.assign(), 20);
        Check.due("outOfLevel", x.outOfLevel(), 0);
        for (int n = 0; n < 20; n += 2) {
            Check.due("with the family", x.group(n), x.group((n / 5 * 5 + 1) / 2 * 2));
        }
    }

    private static void extraPlaced() {
        SkiSchool x = with("g3a1;p3a;p3a;p4ab;p7f;");
        x.assign();
        long before = x.digest();
        Check.due("extraPlaced", x.extraPlaced(3, 0, 6), 2);
        Check.due("one seat", x.extraPlaced(3, 0, 1), 1);
        Check.due("another language", x.extraPlaced(3, 1, 6), 1);
        Check.due("nobody", x.extraPlaced(0, 0, 6), 0);
        Check.due("level 6", x.extraPlaced(6, 5, 6), 1);
        Check.due("digest", x.digest(), before);
        Check.due("level -1", x.extraPlaced(-1, 0, 1), BAD);
        Check.due("level 8", x.extraPlaced(8, 0, 1), BAD);
        Check.due("language -1", x.extraPlaced(0, -1, 1), BAD);
        Check.due("language 6", x.extraPlaced(0, 6, 1), BAD);
        Check.due("capacity 0", x.extraPlaced(0, 0, 0), BAD);
        Check.due("capacity 7", x.extraPlaced(0, 0, 7), BAD);
        x.closeGroup(0);
        Check.due("counts from the best plan, not from the groups now", x.extraPlaced(3, 0, 6), 3);
        Check.due("openGroup after it", x.openGroup(3, 0, 1), 0);
        Check.due("the plan is not carried out", x.placed(), 0);
        Check.due("extraPlaced against the best plan", x.extraPlaced(3, 0, 1), 1);
        x.openGroup(1, 0, 1);
        x.openGroup(1, 0, 1);
        Check.due("a third free number", x.extraPlaced(3, 0, 6), 2);
        x.openGroup(1, 0, 1);
        Check.due("full", x.extraPlaced(3, 0, 6), FULL);
        Check.due("BAD goes first", x.extraPlaced(3, 0, 7), BAD);
        SkiSchool y = with("g3a2;p3a/0;p3a/0;p3a/0;");
        y.setTogether(0, true);
        Check.due("a family moves whole", y.extraPlaced(3, 0, 2), 0);
        Check.due("a family moves whole", y.extraPlaced(3, 0, 3), 3);
        y.setTogether(0, false);
        Check.due("a free one in part", y.extraPlaced(3, 0, 2), 1);
    }

    private static void splitGain() {
        SkiSchool x = with("g3a2;g5b1;p3a/0;p3a/0;p5b/0;p3a/1;p3a;");
        Check.due("-1", x.splitGain(-1), BAD);
        Check.due("8", x.splitGain(8), BAD);
        Check.due("NONE", x.splitGain(NONE), BAD);
        Check.due("free already", x.splitGain(0), 0);
        Check.due("no members", x.splitGain(7), 0);
        x.setTogether(0, true);
        x.setTogether(7, true);
        x.assign();
        long before = x.digest();
        Check.due("splitGain", x.splitGain(0), 1);
        Check.due("free already", x.splitGain(1), 0);
        Check.due("kept without members", x.splitGain(7), 0);
        Check.due("digest", x.digest(), before);
        Check.due("it is still kept", x.assign(), 2);
        Check.due("and asked again", x.splitGain(0), 1);
        x.removePupil(3);
        x.removePupil(4);
        Check.due("all three", x.splitGain(0), 3);
        x.setTogether(0, false);
        Check.due("free now", x.splitGain(0), 0);
    }
}
