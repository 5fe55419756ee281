/** Promises 44 to 47: the text, rosters and the digest. */
public final class TextTest {
    private static final int NONE = SkiSchool.NONE, BAD = SkiSchool.BAD, FULL = SkiSchool.FULL;

    public static void main(String[] args) {
        type();
        clearText();
        faultsOfPupils();
        faultsOfGroups();
        faultsOfInstructors();
        faultsOfLaterEntries();
        faultChangesNothing();
        faultOfFullText();
        faultAtTheEndOfAShorterText();
        loadPupils();
        loadGroups();
        loadInstructors();
        loadUntilFull();
        loadBreaksFamily();
        loadKeepsText();
        digestOfNewObject();
        digestSeesEachValue();
        digestOfNumberZero();
        Check.end();
    }

    private static void type() {
        SkiSchool x = new SkiSchool();
        Check.due("31", x.type(31), BAD);
        Check.due("127", x.type(127), BAD);
        Check.due("-1", x.type(-1), BAD);
        Check.due("a code of a char and more", x.type(65536 + 'p'), BAD);
        Check.due("MIN", x.type(Integer.MIN_VALUE), BAD);
        Check.due("32", x.type(32), 1);
        Check.due("126", x.type(126), 2);
        for (int n = 3; n <= 100; n++) {
            Check.due("type", x.type('p'), n);
        }
        Check.due("full", x.type('p'), FULL);
        Check.due("BAD goes first", x.type(31), BAD);
        Check.due("clearText", x.clearText(), 100);
    }

    private static void clearText() {
        SkiSchool x = new SkiSchool();
        Check.due("clearText", x.clearText(), 0);
        Check.write(x, "p3a;");
        Check.due("clearText", x.clearText(), 4);
        Check.due("clearText", x.clearText(), 0);
        Check.due("load", x.load(), 0);
        Check.due("type", x.type('x'), 1);
        Check.due("pupils", x.pupils(), 0);
    }

    private static void fault(String text, int at) {
        SkiSchool x = new SkiSchool();
        Check.due("load of '" + text + "'", Check.load(x, text), -10 - at);
        Check.due("pupils", x.pupils() + x.groups() + x.instructors(), 0);
    }

    private static void faultsOfPupils() {
        fault(" ", 0);
        fault("x", 0);
        fault("P3a;", 0);
        fault(";", 0);
        fault("p", 1);
        fault("p8a;", 1);
        fault("p/a;", 1);
        fault("p;", 1);
        fault("p3", 2);
        fault("p3;", 2);
        fault("p3/1;", 2);
        fault("p3g;", 2);
        fault("p3`;", 2);
        fault("p33a;", 2);
        fault("p3A;", 2);
        fault("p3a", 3);
        fault("p3aa;", 3);
        fault("p3ba;", 3);
        fault("p3abb;", 4);
        fault("p3fg;", 3);
        fault("p3ag;", 3);
        fault("p3f", 3);
        fault("p3a ;", 3);
        fault("p3a/", 4);
        fault("p3a/8;", 4);
        fault("p3a/;", 4);
        fault("p3a/1", 5);
        fault("p3a/12;", 5);
        fault("p3a/1a;", 5);
        fault("p3abcdef", 8);
        fault("p3abcdeff", 8);
    }

    private static void faultsOfGroups() {
        fault("g", 1);
        fault("g8a1;", 1);
        fault("ga1;", 1);
        fault("g3", 2);
        fault("g31;", 2);
        fault("g3g1;", 2);
        fault("g3a", 3);
        fault("g3a0;", 3);
        fault("g3a7;", 3);
        fault("g3ab1;", 3);
        fault("g3a;", 3);
        fault("g3a1", 4);
        fault("g3a12;", 4);
        fault("g3a1/1;", 4);
    }

    private static void faultsOfInstructors() {
        fault("i", 1);
        fault("i07:1;", 1);
        fault("ig07:1;", 1);
        fault("ia", 2);
        fault("iaa07:1;", 2);
        fault("iba07:1;", 2);
        fault("ia87:1;", 2);
        fault("ia:1;", 2);
        fault("ia/1;", 2);
        fault("ia0", 3);
        fault("ia08:1;", 3);
        fault("ia32:1;", 3);
        fault("ia76:1;", 3);
        fault("ia3:1;", 3);
        fault("ia3", 3);
        fault("ia33", 4);
        fault("ia33;", 4);
        fault("ia331:", 4);
        fault("ia33:", 5);
        fault("ia33:;", 5);
        fault("ia33:0;", 5);
        fault("ia33:01;", 5);
        fault("ia33:x;", 5);
        fault("ia33:1", 6);
        fault("ia33:1 ;", 6);
        fault("ia33:10:", 7);
        fault("ia33:123456", 11);
        fault("ia33:1234567;", 11);
        fault("ia33:1000000;", 11);
    }

    private static void faultsOfLaterEntries() {
        fault("p3a;;", 4);
        fault("p3a; p3a;", 4);
        fault("p3a;g3a1;ia07:5;x", 16);
        fault("p3a;g3a1;ia07:5;p", 17);
        fault("ia07:5;g3a", 10);
        fault("g3a1;p3a/9;x", 9);
    }

    private static void faultChangesNothing() {
        SkiSchool x = new SkiSchool();
        x.addPupil(3, 1, NONE);
        Check.write(x, "p3a;g3a1;ia07:5;p3a");
        long before = x.digest();
        Check.due("load", x.load(), -29);
        Check.due("load", x.load(), -29);
        Check.due("digest", x.digest(), before);
        x.type(';');
        Check.due("the text stays", x.load(), 4);
        Check.due("pupils", x.pupils(), 3);
    }

    private static void faultOfFullText() {
        StringBuilder text = new StringBuilder();
        for (int n = 0; n < 24; n++) {
            text.append("p3a;");
        }
        fault(text + "g3a1", 100);
        fault(text + "g3a9", 99);
        SkiSchool x = new SkiSchool();
        Check.due("load of 100 characters", Check.load(x, text + "p3a;"), 20);
        Check.due("pupils", x.pupils(), 20);
    }

    /** What stood in an earlier text does not complete the entry. */
    private static void faultAtTheEndOfAShorterText() {
        SkiSchool x = new SkiSchool();
        Check.due("load", Check.load(x, "p3a;g3a1;"), 2);
        Check.due("load", Check.load(x, "p3a"), -13);
        Check.due("load", Check.load(x, "p3a;g3a"), -17);
        Check.due("load", Check.load(x, "p3a;"), 1);
        Check.due("pupils", x.pupils(), 2);
    }

    private static void loadPupils() {
        SkiSchool x = new SkiSchool();
        Check.due("load", Check.load(x, "p0a;p7f;p3abcdef;p1bd/0;p2ace/7;"), 5);
        int[] levels = {0, 7, 3, 1, 2};
        int[] languages = {1, 32, 63, 10, 21};
        int[] families = {NONE, NONE, NONE, 0, 7};
        Check.due("pupils", x.pupils(), 5);
        for (int n = 0; n < 5; n++) {
            Check.due("level", x.level(n), levels[n]);
            Check.due("languages", x.languages(n), languages[n]);
            Check.due("family", x.family(n), families[n]);
            Check.due("group", x.group(n), NONE);
        }
        x.removePupil(1);
        Check.due("load", Check.load(x, "p4c;p5d;"), 2);
        Check.due("the smallest free number", x.languages(1), 4);
        Check.due("the next", x.languages(5), 8);
        Check.due("no family from an earlier entry", x.family(5), NONE);
    }

    private static void loadGroups() {
        SkiSchool x = new SkiSchool();
        Check.due("load", Check.load(x, "g0a1;g7f6;p7f;p7f;p7f;p0a;p0a;"), 7);
        Check.due("groupLevel", x.groupLevel(0), 0);
        Check.due("groupLevel", x.groupLevel(1), 7);
        Check.due("languages and capacities", x.assign(), 4);
        Check.due("size", x.size(0), 1);
        Check.due("size", x.size(1), 3);
    }

    private static void loadInstructors() {
        SkiSchool x = new SkiSchool();
        Check.due("load", Check.load(x, "g0a1;g1a1;g7f1;ia00:1;if77:999999;iaf17:12;"), 6);
        int[][] can = {{1, 0, 0}, {0, 0, 1}, {0, 1, 1}};
        for (int n = 0; n < 3; n++) {
            for (int g = 0; g < 3; g++) {
                Check.due("canTeach", x.canTeach(n, g), can[n][g]);
            }
        }
        Check.due("load", Check.load(x, "p0a;p1a;p7f;"), 3);
        x.removePupil(0);
        x.removePupil(1);
        x.assign();
        Check.due("wage 12", x.staff(), 12);
        x.dismiss(2);
        Check.due("wage 999999", x.staff(), 999999);
    }

    private static void loadUntilFull() {
        SkiSchool x = new SkiSchool();
        Check.due("load", Check.load(x, "g0a1;p1a;g1a1;g2a1;ia07:1;g3a1;g4a1;p1a;ia07:1;"), 6);
        Check.due("groups", x.groups(), 4);
        Check.due("pupils", x.pupils(), 1);
        Check.due("instructors", x.instructors(), 1);
        Check.due("the first one is full", Check.load(x, "g0a1;p1a;"), 0);
        Check.due("pupils", x.pupils(), 1);
        Check.due("load", Check.load(x, "ia07:1;ia07:2;ia07:3;ia07:4;ia07:5;ia07:6;ia07:7;ia07:8;p3a;"), 7);
        Check.due("instructors", x.instructors(), 8);
        Check.due("pupils", x.pupils(), 1);
        Check.due("a fault goes before it", Check.load(x, "g0a1;p"), -16);
    }

    private static void loadBreaksFamily() {
        SkiSchool x = new SkiSchool();
        Check.due("load", Check.load(x, "p3a/2;p3a/2;g3a6;"), 3);
        x.setTogether(2, true);
        Check.due("assign", x.assign(), 2);
        Check.due("load", Check.load(x, "p3a/2;"), 1);
        Check.due("all members have left", x.placed(), 0);
    }

    private static void loadKeepsText() {
        SkiSchool x = new SkiSchool();
        Check.due("load", Check.load(x, "p3a;"), 1);
        Check.due("load", x.load(), 1);
        Check.due("pupils", x.pupils(), 2);
        Check.due("type", x.type('p'), 5);
        Check.due("load", x.load(), -15);
        Check.due("clearText", x.clearText(), 5);
    }

    private static long hash(long... values) {
        long h = 43053;
        for (long value : values) {
            h = 31 * h + value;
        }
        return h;
    }

    private static void digestOfNewObject() {
        SkiSchool x = new SkiSchool();
        Check.due("digest", x.digest(), hash(0, 0, 0, 0, -9, -9, -9, -9, -9, -9, -9, -9, 0, 0, 0));
    }

    private static void digestSeesEachValue() {
        SkiSchool x = new SkiSchool();
        Check.due("load", Check.load(x, "p0a;p3a/1;p2a/1;g1a1;g3a3;ia07:5;ia07:6;"), 7);
        x.nextDay();
        x.removePupil(0);
        x.score(1, 1, 8);
        x.closeGroup(0);
        x.assign();
        x.staff();
        x.pay(3);
        x.dismiss(0);
        x.addLift(1, 4, 9);
        x.addLift(1, 1, 1);
        x.addStop(1, 0, 2);
        x.simulate(5);
        Check.due("digest", x.digest(), hash(1, 2, 1, 1,
            1, 3, 1, 1, 1, -9, 8, -9, -9,
            2, 2, 1, 1, 1, -9, -9, -9, -9,
            -9, 1, -9, -9, -9, -9, -9, -9,
            1, 3, 2, NONE, x.waited(1), x.rides(1),
            1, 0,
            x.longestQueue(0), x.carried(0), 0, 0,
            2, 1, 40));
        Check.due("waited", x.waited(1), 4);
        Check.due("rides", x.rides(1), 1);
        Check.due("longestQueue", x.longestQueue(0), 1);
        Check.due("carried", x.carried(0), 2);
    }

    private static void digestOfNumberZero() {
        SkiSchool x = new SkiSchool();
        Check.due("load", Check.load(x, "p3a;g3a3;ia07:5;"), 3);
        x.assign();
        x.staff();
        x.pay(2);
        Check.due("digest", x.digest(), hash(0, 1, 1, 1,
            0, 3, 1, NONE, 0, -9, -9, -9, -9,
            -9, -9, -9, -9, -9, -9, -9, -9,
            0, 3, 1, 0, 0, 0,
            0, 10,
            1, 0, 16));
    }
}
