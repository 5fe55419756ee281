/** Promises 27 to 33: instructors, staffings and pay. */
public final class InstructorTest {
    private static final int NONE = SkiSchool.NONE, BAD = SkiSchool.BAD, STATE = SkiSchool.STATE, FULL = SkiSchool.FULL;
    private static final int[] NO_INSTRUCTORS = {-1, 8, NONE, Integer.MIN_VALUE, Integer.MAX_VALUE};

    public static void main(String[] args) {
        hire();
        hireErrors();
        dismiss();
        canTeach();
        staffCheapest();
        staffDearest();
        staffSmallestNumbers();
        staffInactiveGroups();
        staffImpossible();
        staffNeedsAnExchange();
        pay();
        payOnlyActiveGroups();
        payFull();
        earnings();
        Check.end();
    }

    private static SkiSchool with(String roster) {
        SkiSchool x = new SkiSchool();
        Check.holds("the roster " + roster + " is loaded", Check.load(x, roster) > 0);
        x.clearText();
        x.assign();
        return x;
    }

    private static void hire() {
        SkiSchool x = new SkiSchool();
        Check.due("hire", x.hire(1, 0, 0, 1), 0);
        Check.due("hire", x.hire(63, 7, 7, 999999), 1);
        for (int n = 2; n < 8; n++) {
            Check.due("hire", x.hire(5, 1, 6, 100), n);
        }
        Check.due("instructors", x.instructors(), 8);
        long before = x.digest();
        Check.due("full", x.hire(5, 1, 6, 100), FULL);
        Check.due("BAD goes first", x.hire(0, 1, 6, 100), BAD);
        Check.due("digest", x.digest(), before);
        x.dismiss(6);
        x.dismiss(3);
        Check.due("instructors", x.instructors(), 6);
        Check.due("the smallest free number", x.hire(5, 1, 6, 100), 3);
        Check.due("the next", x.hire(5, 1, 6, 100), 6);
        Check.due("the last one has earnings", x.earnings(7), 0);
        Check.due("the last one is dismissed", x.dismiss(7), NONE);
        Check.due("the last one is gone", x.earnings(7), BAD);
    }

    private static void hireErrors() {
        SkiSchool x = new SkiSchool();
        Check.due("languages 0", x.hire(0, 0, 7, 1), BAD);
        Check.due("languages 64", x.hire(64, 0, 7, 1), BAD);
        Check.due("lowest -1", x.hire(1, -1, 7, 1), BAD);
        Check.due("lowest 8", x.hire(1, 8, 8, 1), BAD);
        Check.due("highest 8", x.hire(1, 0, 8, 1), BAD);
        Check.due("highest under lowest", x.hire(1, 4, 3, 1), BAD);
        Check.due("wage 0", x.hire(1, 0, 7, 0), BAD);
        Check.due("wage 1000000", x.hire(1, 0, 7, 1000000), BAD);
        Check.due("wage MIN", x.hire(1, 0, 7, Integer.MIN_VALUE), BAD);
        Check.due("instructors", x.instructors(), 0);
    }

    private static void dismiss() {
        SkiSchool x = with("p1a;p5b;g1a1;g5b1;ia07:5;ib07:6;ic07:7;");
        Check.due("staff", x.staff(), 11);
        Check.due("pay", x.pay(10), 110);
        Check.due("dismiss", x.dismiss(1), 1);
        Check.due("again", x.dismiss(1), BAD);
        Check.due("instructor", x.instructor(1), NONE);
        Check.due("the other stays", x.instructor(0), 0);
        Check.due("without a group", x.dismiss(2), NONE);
        Check.due("instructors", x.instructors(), 1);
        Check.due("hire", x.hire(2, 0, 7, 9), 1);
        Check.due("new earnings", x.earnings(1), 0);
        Check.due("no group", x.instructor(1), NONE);
        Check.due("dismiss", x.dismiss(0), 0);
        Check.due("dismiss", x.dismiss(1), NONE);
        Check.due("instructors", x.instructors(), 0);
        for (int instructor : NO_INSTRUCTORS) {
            Check.due("no such instructor", x.dismiss(instructor), BAD);
        }
    }

    private static void canTeach() {
        SkiSchool x = with("g2b1;g5b1;g3c1;ib25:5;ibc33:6;");
        Check.due("lowest level", x.canTeach(0, 0), 1);
        Check.due("highest level", x.canTeach(0, 1), 1);
        Check.due("another language", x.canTeach(0, 2), 0);
        Check.due("below", x.canTeach(1, 0), 0);
        Check.due("above", x.canTeach(1, 1), 0);
        Check.due("second language", x.canTeach(1, 2), 1);
        Check.due("no group", x.canTeach(0, 3), BAD);
        Check.due("no group", x.canTeach(0, -1), BAD);
        Check.due("no group", x.canTeach(0, 4), BAD);
        Check.due("no instructor", x.canTeach(2, 0), BAD);
        for (int instructor : NO_INSTRUCTORS) {
            Check.due("no such instructor", x.canTeach(instructor, 0), BAD);
        }
    }

    private static void staffCheapest() {
        SkiSchool x = with("p1a;p1a;g1a1;g1a1;ia07:9;ia07:4;ia07:7;ib07:1;ia27:1;");
        Check.due("staff", x.staff(), 11);
        Check.due("instructor", x.instructor(0), 1);
        Check.due("instructor", x.instructor(1), 2);
        x.hire(1, 0, 7, 3);
        Check.due("whatever instructors they had", x.staff(), 7);
        Check.due("instructor", x.instructor(0), 1);
        Check.due("instructor", x.instructor(1), 5);
        Check.due("the old one has no group", x.dismiss(2), NONE);
    }

    /** Four active groups, and each instructor at the highest wage there is. */
    private static void staffDearest() {
        SkiSchool x = with("p1a;p1a;p1a;p1a;g1a1;g1a1;g1a1;g1a1;");
        for (int n = 0; n < 4; n++) {
            x.hire(1, 0, 7, 999999);
        }
        Check.due("staff", x.staff(), 4 * 999999);
        for (int n = 0; n < 4; n++) {
            Check.due("instructor", x.instructor(n), n);
        }
        Check.due("pay", x.pay(100), 4 * 99999900);
    }

    private static void staffSmallestNumbers() {
        SkiSchool x = with("p1a;p1a;p1a;g1a1;g1a1;g1a1;ia07:5;ia07:5;ia07:5;ia07:5;");
        Check.due("staff", x.staff(), 15);
        for (int n = 0; n < 3; n++) {
            Check.due("instructor", x.instructor(n), n);
        }
        SkiSchool y = with("p1a;p1b;g1a1;g1b1;iab07:5;iab07:5;ia07:5;");
        Check.due("staff", y.staff(), 10);
        Check.due("instructor", y.instructor(0), 0);
        Check.due("instructor", y.instructor(1), 1);
        SkiSchool z = with("p1a;p1b;g1a1;g1b1;iab07:6;ib07:5;ia07:6;ia07:6;");
        Check.due("staff", z.staff(), 11);
        Check.due("instructor", z.instructor(0), 0);
        Check.due("instructor", z.instructor(1), 1);
    }

    private static void staffInactiveGroups() {
        SkiSchool x = with("p1a;g1a1;g1a1;g7f1;ia07:5;ia07:6;");
        Check.due("staff", x.staff(), 5);
        Check.due("instructor", x.instructor(0), 0);
        Check.due("instructor", x.instructor(1), NONE);
        Check.due("instructor", x.instructor(2), NONE);
        x.removePupil(0);
        Check.due("it stays for the moment", x.instructor(0), 0);
        Check.due("no group is active", x.staff(), 0);
        Check.due("it has none then", x.instructor(0), NONE);
        x.addPupil(1, 1, NONE);
        x.assign();
        x.closeGroup(1);
        Check.due("staff", x.staff(), 5);
        Check.due("the free number 1", x.openGroup(2, 0, 1), 1);
        Check.due("without an instructor", x.instructor(1), NONE);
    }

    private static void staffImpossible() {
        SkiSchool x = with("p1a;p5b;g1a1;g5b1;iab07:5;ia07:9;");
        Check.due("staff", x.staff(), 14);
        x.dismiss(1);
        long before = x.digest();
        Check.due("one for two groups", x.staff(), STATE);
        Check.due("digest", x.digest(), before);
        Check.due("nothing changes", x.instructor(1), 0);
        Check.due("nothing changes", x.instructor(0), NONE);
        x.hire(2, 6, 7, 1);
        Check.due("the level", x.staff(), STATE);
        x.hire(2, 5, 5, 999999);
        Check.due("staff", x.staff(), 1000004);
        SkiSchool y = with("p1a;g1a1;");
        Check.due("no instructors", y.staff(), STATE);
    }

    /** The cheapest for the first group is not part of the cheapest staffing. */
    private static void staffNeedsAnExchange() {
        SkiSchool x = with("p1a;p1b;p1c;p1d;g1a1;g1b1;g1c1;g1d1;iab07:1;ia07:2;ibc07:1;ib07:9;icd07:1;ic07:9;id07:9;");
        Check.due("staff", x.staff(), 5);
        Check.due("instructor", x.instructor(0), 1);
        Check.due("instructor", x.instructor(1), 0);
        Check.due("instructor", x.instructor(2), 2);
        Check.due("instructor", x.instructor(3), 4);
    }

    private static void pay() {
        SkiSchool x = with("p1a;p5b;g1a1;g5b1;ia07:5;ib07:6;ia07:7;");
        Check.due("no staff yet", x.pay(10), 0);
        Check.due("staff", x.staff(), 11);
        Check.due("pay", x.pay(1), 11);
        Check.due("pay", x.pay(100), 1100);
        Check.due("earnings", x.earnings(0), 505);
        Check.due("earnings", x.earnings(1), 606);
        Check.due("earnings", x.earnings(2), 0);
        Check.due("0", x.pay(0), BAD);
        Check.due("101", x.pay(101), BAD);
        Check.due("-1", x.pay(-1), BAD);
        Check.due("MIN", x.pay(Integer.MIN_VALUE), BAD);
        Check.due("earnings", x.earnings(0), 505);
    }

    private static void payOnlyActiveGroups() {
        SkiSchool x = with("p1a;p5b;g1a1;g5b1;ia07:5;ib07:6;");
        x.staff();
        x.removePupil(0);
        Check.due("an instructor of a group that is not active", x.pay(10), 60);
        Check.due("earnings", x.earnings(0), 0);
        Check.due("earnings", x.earnings(1), 60);
    }

    private static void payFull() {
        SkiSchool x = with("p1a;p5b;g1a1;g5b1;ib07:999999;ia07:1;");
        x.staff();
        for (int n = 0; n < 21; n++) {
            Check.due("pay", x.pay(100), 100000000);
        }
        Check.due("earnings", x.earnings(0), 2099997900);
        Check.due("pay 47", x.pay(47), 47000000);
        Check.due("earnings", x.earnings(0), 2146997853);
        long before = x.digest();
        Check.due("full", x.pay(1), FULL);
        Check.due("full", x.pay(100), FULL);
        Check.due("BAD goes first", x.pay(101), BAD);
        Check.due("digest", x.digest(), before);
        Check.due("nobody is paid", x.earnings(1), 2147);
        x.closeGroup(1);
        Check.due("pay", x.pay(100), 100);
        payToTheBrim();
    }

    /** 549791 * 3906 is 2147483646, and 524288 * 4096 is 2147483648: one too many. */
    private static void payToTheBrim() {
        SkiSchool x = with("p1a;g1a1;ia07:549791;");
        x.staff();
        for (int n = 0; n < 39; n++) {
            Check.due("pay", x.pay(100), 54979100);
        }
        Check.due("too much", x.pay(7), FULL);
        Check.due("pay", x.pay(6), 3298746);
        Check.due("earnings", x.earnings(0), 2147483646);
        Check.due("too much", x.pay(1), FULL);
        SkiSchool y = with("p1a;g1a1;ia07:524288;");
        y.staff();
        for (int n = 0; n < 40; n++) {
            Check.due("pay", y.pay(100), 52428800);
        }
        Check.due("one too many", y.pay(96), FULL);
        Check.due("pay", y.pay(95), 49807360);
        Check.due("one too many", y.pay(1), FULL);
        Check.due("earnings", y.earnings(0), 2146959360);
    }

    private static void earnings() {
        SkiSchool x = new SkiSchool();
        x.hire(1, 0, 7, 5);
        Check.due("earnings", x.earnings(0), 0);
        Check.due("earnings", x.earnings(1), BAD);
        for (int instructor : NO_INSTRUCTORS) {
            Check.due("no such instructor", x.earnings(instructor), BAD);
        }
    }
}
