import java.math.BigInteger;
import java.util.ArrayList;
import java.util.List;
import java.util.function.Supplier;

/** The boundary cases of promises 44 to 47, and of "Text". */
public final class TextEdgesTest {
    private static final int NONE = SkiSchool.NONE, BAD = SkiSchool.BAD, FULL = SkiSchool.FULL;
    private static final String DIGITS = "01234567";

    public static void main(String[] args) {
        Edges.run(TextEdgesTest.class);
    }

    private static SkiSchool typed(SkiSchool x, String text) {
        x.clearText();
        Schools.type(x, text);
        return x;
    }

    private static SkiSchool typed(String text) {
        return typed(new SkiSchool(), text);
    }

    /** The text ends too early; the next character may be one of these and no other from 32 to 126. */
    private static void next(String begin, String allowed) {
        Check.due("the fault of '" + begin + "'", typed(begin).load(), -10 - begin.length());
        nextAfterAll(begin, allowed);
    }

    private static void nextAfterAll(String begin, String allowed) {
        for (char sign = 32; sign <= 126; sign++) {
            String text = begin + sign;
            int answer = typed(text).load();
            boolean stands = answer >= 0 || answer == -10 - text.length();
            Check.holds("'" + text + "' stands: " + answer, stands == allowed.indexOf(sign) >= 0);
            Check.holds("or the fault is its last character", stands || answer == -10 - begin.length());
        }
    }

    /** The roster is loaded into an empty school, and the school is the same as one built without load. */
    private static void same(String roster, int entries) {
        SkiSchool x = typed(roster);
        Check.due("load of " + roster, x.load(), entries);
        SkiSchool y = typed(Schools.of(roster), roster);
        Check.due("the school after it", x.digest(), y.digest());
        Check.holds("all answers after it", Probe.of(x).equals(Probe.of(y)));
    }

    private static final String HUNDRED = "p3a;".repeat(25);

    // ---- Terms: the entries

    @Edge(promise = 0, says = "it is a sequence of entries (possibly none)")
    static void noEntriesAndTheFirstCharacter() {
        Check.due("no entries", typed("").load(), 0);
        nextAfterAll("", "pgi");
    }

    @Edge(promise = 0, says = "without spaces")
    static void spacesAnywhere() {
        String roster = "p3a/1;g3a1;ia07:12;";
        for (int at = 0; at <= roster.length(); at++) {
            String text = roster.substring(0, at) + " " + roster.substring(at);
            Check.due("load of " + text, typed(text).load(), -10 - at);
        }
    }

    @Edge(promise = 0, says = "each of which ends with a semicolon")
    static void afterAWholeEntry() {
        nextAfterAll("p3a;", "pgi");
        nextAfterAll("g3a1;", "pgi");
        nextAfterAll("ia07:1;", "pgi");
        next("p3a/1", ";");
        next("g3a6", ";");
        next("ia07:999999", ";");
    }

    @Edge(promise = 0, says = "a pupil: the letter p, the digit of the level (0 to 7)")
    static void theLevelOfAPupil() {
        next("p", DIGITS);
        same("p0a;", 1);
        same("p7a;", 1);
    }

    @Edge(promise = 0, says = "one or more letters of languages (a to f for 0 to 5) in strictly ascending order")
    static void theLanguagesOfAPupil() {
        next("p3", "abcdef");
        next("p3a", "bcdef/;");
        next("p3c", "def/;");
        next("p3e", "f/;");
        next("p3f", "/;");
        next("p3ac", "def/;");
        next("p3abcde", "f/;");
        next("p3abcdef", "/;");
        same("p3a;p3b;p3c;p3d;p3e;p3f;", 6);
        same("p3abcdef;", 1);
    }

    @Edge(promise = 0, says = "optionally, a slash and the digit of the family (0 to 7)")
    static void theFamilyOfAPupil() {
        next("p3a/", DIGITS);
        next("p3a/0", ";");
        next("p3a/7", ";");
        same("p3a/0;p3a/7;p3a;", 3);
        SkiSchool x = typed("p3a/7;p3a;");
        x.load();
        Check.due("family", x.family(0), 7);
        Check.due("none in the next entry", x.family(1), NONE);
    }

    @Edge(promise = 0, says = "a group: the letter g, the digit of the level (0 to 7), the letter of the language (a to f), and the digit of the capacity (1 to 6)")
    static void eachPlaceOfAGroup() {
        next("g", DIGITS);
        next("g0", "abcdef");
        next("g7", "abcdef");
        next("g3a", "123456");
        next("g3f", "123456");
        next("g3a1", ";");
        same("g0a1;g7f6;", 2);
    }

    @Edge(promise = 0, says = "an instructor: the letter i, one or more letters of languages in strictly ascending order")
    static void theLanguagesOfAnInstructor() {
        next("i", "abcdef");
        next("ia", "bcdef" + DIGITS);
        next("ic", "def" + DIGITS);
        next("if", DIGITS);
        next("iabcdef", DIGITS);
        same("g3a1;g3f1;ia07:1;if07:1;iabcdef07:1;", 5);
    }

    @Edge(promise = 0, says = "the digit of the lowest level (0 to 7), the digit of the highest level (the lowest level to 7)")
    static void theLevelsOfAnInstructor() {
        for (int lowest = 0; lowest <= 7; lowest++) {
            next("ia" + lowest, DIGITS.substring(lowest));
            next("ia" + lowest + lowest, ":");
            next("ia" + lowest + "7", ":");
        }
        same("g0a1;g3a1;g7a1;ia00:1;ia77:1;ia07:1;ia33:1;", 7);
    }

    @Edge(promise = 0, says = "a colon, and the wage, which has 1 to 6 digits, the first of which is not 0")
    static void theWageOfAnInstructor() {
        next("ia07:", "123456789");
        String digits = "0123456789;";
        next("ia07:1", digits);
        next("ia07:10", digits);
        next("ia07:100", digits);
        next("ia07:1000", digits);
        next("ia07:10000", digits);
        next("ia07:100000", ";");
        next("ia07:999999", ";");
        same("p3a;g3a1;ia07:1;", 3);
        same("p3a;g3a1;ia07:10;", 3);
        same("p3a;g3a1;ia07:999999;", 3);
    }

    // ---- Terms: the fault

    @Edge(promise = 0, says = "the index of the first character that cannot stand at its place when the text is read from left to right")
    static void theFirstOfSeveralFaults() {
        Check.due("index 0", typed("xyz").load(), -10);
        Check.due("index 1", typed("p9z9").load(), -11);
        Check.due("in the second entry", typed("p3a;g9a9;").load(), -15);
        Check.due("after a whole entry", typed("p3a;;p").load(), -14);
    }

    @Edge(promise = 0, says = "or the length of the text if the text ends before an entry is complete")
    static void theLengthOfTheText() {
        Check.due("1 character", typed("p").load(), -11);
        Check.due("a whole entry and a begun one", typed("p3a;g").load(), -15);
        String begun = "p3a;".repeat(24) + "g3a6";
        Check.due("100 characters", typed(begun).load(), -110);
        Check.due("99 characters", typed(begun.substring(0, 99)).load(), -109);
    }

    @Edge(promise = 0, says = "the index of the first character that cannot stand at its place")
    static void theLastOfHundredCharacters() {
        Check.due("it can't stand", typed("p3a;".repeat(24) + "g3a7").load(), -109);
        Check.due("it can", typed("p3abc;".repeat(16) + "g3a;").load(), -10 - 99);
        Check.due("a whole roster", typed("p3abc;".repeat(15) + "g3a6;g3a6;").load(), 17);
    }

    @Edge(promise = 0, says = "or the length of the text if the text ends before an entry is complete")
    static void anEarlierTextDoesNotCompleteAnEntry() {
        SkiSchool x = typed(HUNDRED);
        typed(x, "p3");
        Check.due("load", x.load(), -12);
        typed(x, "p3a");
        Check.due("load", x.load(), -13);
        typed(x, "");
        Check.due("load", x.load(), 0);
    }

    // ---- Promise 44: type

    @Edge(promise = 44, says = "`code`: its code, 32 to 126")
    static void typeCodes() {
        Twins.range("type", Schools::busy, SkiSchool::type, 32, 126, code -> 11);
        int[] wide = {0, 9, 10, 128, 255, 256 + 'p', 65536 + 'p', -112};
        for (int code : wide) {
            Twins.noTrace("type " + code, Schools::busy, x -> x.type(code), BAD);
        }
    }

    @Edge(promise = 44, says = "Returns the length of the text then")
    static void typeFrom1To100() {
        SkiSchool x = new SkiSchool();
        for (int n = 1; n <= 100; n++) {
            Check.due("type", x.type(31 + n % 95 + 1), n);
        }
    }

    @Edge(promise = 44, says = "FULL if the text has 100 characters")
    static void type100And101() {
        SkiSchool x = typed(HUNDRED.substring(1));
        Check.due("the 100th", x.type(';'), 100);
        Check.due("the 101st", x.type(';'), FULL);
        Check.due("clearText", x.clearText(), 100);
        Twins.noTrace("the 101st", Schools::full, y -> y.type('p'), FULL);
        Twins.noTrace("the 101st", () -> typed(HUNDRED), y -> y.type('x'), FULL);
    }

    @Edge(promise = 44, says = "BAD if code is out of range; FULL if the text has 100 characters")
    static void typeIsBadBeforeFull() {
        Twins.noTrace("31", Schools::full, x -> x.type(31), BAD);
        Twins.noTrace("127", Schools::full, x -> x.type(127), BAD);
    }

    // ---- Promise 45: clearText

    @Edge(promise = 45, says = "Returns the length that it had")
    static void clearAnEmptyAndAFullText() {
        Twins.noTrace("an empty one", SkiSchool::new, SkiSchool::clearText, 0);
        Check.due("one character", typed(" ").clearText(), 1);
        SkiSchool x = typed(HUNDRED);
        Check.due("100", x.clearText(), 100);
        Check.due("again", x.clearText(), 0);
    }

    @Edge(promise = 45, says = "Empties the text.")
    static void aClearedTextHasRoomFor100() {
        SkiSchool x = typed(HUNDRED);
        x.clearText();
        Check.due("load", x.load(), 0);
        for (int n = 1; n <= 100; n++) {
            Check.due("type", x.type('g'), n);
        }
        Check.due("the 101st", x.type('g'), FULL);
    }

    // ---- Promise 46: load

    @Edge(promise = 46, says = "Returns how many entries are carried out")
    static void loadFromNoneTo25() {
        Check.due("none", typed("").load(), 0);
        Check.due("one", typed("g3a1;").load(), 1);
        Check.due("16", typed("p3abc;".repeat(16)).load(), 16);
        Check.due("20 of 25", typed(HUNDRED).load(), 20);
    }

    @Edge(promise = 46, says = "until one of them would return FULL; that one and all later ones are not carried out")
    static void theTwentyFirstPupil() {
        SkiSchool x = Schools.of("p3a;".repeat(18));
        typed(x, "p1a;p2a;p4a;g3a1;ia07:1;");
        Check.due("load", x.load(), 2);
        Check.due("pupils", x.pupils(), 20);
        Check.due("the last one", x.level(19), 2);
        Check.due("groups", x.groups(), 0);
        Check.due("instructors", x.instructors(), 0);
    }

    @Edge(promise = 46, says = "until one of them would return FULL; that one and all later ones are not carried out")
    static void theFifthGroup() {
        SkiSchool x = typed("g0a1;g1a1;g2a1;p3a;g3a1;g4a1;p3a;ia07:1;");
        Check.due("load", x.load(), 5);
        Check.due("groups", x.groups(), 4);
        Check.due("pupils", x.pupils(), 1);
        Check.due("instructors", x.instructors(), 0);
    }

    @Edge(promise = 46, says = "until one of them would return FULL; that one and all later ones are not carried out")
    static void theNinthInstructor() {
        SkiSchool x = typed("ia07:1;".repeat(8) + "p3a;" + "ia07:2;g3a1;p3a;");
        Check.due("load", x.load(), 9);
        Check.due("instructors", x.instructors(), 8);
        Check.due("groups", x.groups(), 0);
        Check.due("pupils", x.pupils(), 1);
    }

    @Edge(promise = 46, says = "until one of them would return FULL")
    static void allThatThereIsRoomFor() {
        SkiSchool x = Schools.of("p3a;".repeat(19) + "g3a1;".repeat(3) + "ia07:1;".repeat(7));
        typed(x, "p3a;g3a1;ia07:1;");
        Check.due("load", x.load(), 3);
        Check.due("pupils", x.pupils(), 20);
        Check.due("groups", x.groups(), 4);
        Check.due("instructors", x.instructors(), 8);
        Check.due("again", x.load(), 0);
    }

    @Edge(promise = 46, says = "that one and all later ones are not carried out")
    static void theFirstEntryIsFull() {
        Twins.noTrace("pupil", () -> typed(Schools.of("p3a;".repeat(20)), "p3a;g3a1;ia07:1;"), SkiSchool::load, 0);
        Twins.noTrace("group", () -> typed(Schools.of("g3a1;".repeat(4)), "g3a1;p3a;ia07:1;"), SkiSchool::load, 0);
        Twins.noTrace("instructor", () -> typed(Schools.of("ia07:1;".repeat(8)), "ia07:1;p3a;g3a1;"), SkiSchool::load, 0);
    }

    @Edge(promise = 46, says = "-10 minus the fault if the text is no roster (then nothing changes)")
    static void aFaultAfterWholeEntries() {
        Twins.noTrace("the last character", () -> typed(Schools.busy(), "p3a;g3a1;ia07:1;p"), SkiSchool::load, -10 - 17);
        Twins.noTrace("in the wage", () -> typed(Schools.busy(), "p3a;g3a1;ia07:0;"), SkiSchool::load, -10 - 14);
        Twins.noTrace("the first character", () -> typed(Schools.busy(), "xp3a;"), SkiSchool::load, -10);
    }

    @Edge(promise = 46, says = "-10 minus the fault if the text is no roster (then nothing changes)")
    static void aFaultAfterAnEntryThatIsFull() {
        Supplier<SkiSchool> full = () -> typed(Schools.of("p3a;".repeat(20)), "g3a1;p3a;x");
        Twins.noTrace("load", full, SkiSchool::load, -10 - 9);
        Twins.noTrace("load", Schools::full, SkiSchool::load, -10 - 100);
    }

    @Edge(promise = 46, says = "The text stays.")
    static void theSameTextAgainAndAgain() {
        SkiSchool x = typed("p3a;g3a1;");
        for (int n = 1; n <= 4; n++) {
            Check.due("load", x.load(), 2);
        }
        Check.due("a pupil and no group any more", x.load(), 1);
        Check.due("pupils", x.pupils(), 5);
        Check.due("the text", x.clearText(), 9);
    }

    @Edge(promise = 46, says = "as by addPupil, openGroup and hire")
    static void theNumbersThatAreFreeAgain() {
        SkiSchool x = Schools.of("p3a;p3a;g3a1;g3a1;ia07:1;ia07:1;");
        x.removePupil(0);
        x.closeGroup(0);
        x.dismiss(0);
        typed(x, "p5b/2;g6c1;ib56:7;");
        Check.due("load", x.load(), 3);
        Check.due("level", x.level(0), 5);
        Check.due("groupLevel", x.groupLevel(0), 6);
        Check.due("canTeach", x.canTeach(0, 0), 0);
        Check.due("canTeach", x.canTeach(0, 1), 0);
    }

    @Edge(promise = 46, says = "as by addPupil, openGroup and hire")
    static void aLoadedMemberSeparatesItsFamily() {
        SkiSchool x = Schools.of("g3a6;p3a/0;p3a/0;p3a/7;");
        x.setTogether(0, true);
        x.setTogether(7, true);
        x.assign();
        typed(x, "p3a;p3a/1;");
        x.load();
        Check.due("nobody leaves", x.placed(), 3);
        typed(x, "p3a/7;");
        x.load();
        Check.due("one leaves", x.placed(), 2);
        typed(x, "p3a/0;");
        x.load();
        Check.due("all have left", x.placed(), 0);
    }

    // ---- Promise 47: digest

    /** The hash with numbers of any size; what goes beyond a long is cut off at the end. */
    private static long hash(List<Long> values) {
        BigInteger h = BigInteger.valueOf(43053);
        for (long value : values) {
            h = h.multiply(BigInteger.valueOf(31)).add(BigInteger.valueOf(value));
        }
        return h.longValue();
    }

    /** The values of the hash, by the calls that tell them. */
    private static List<Long> values(SkiSchool x, int day, int lifts, int text) {
        List<Long> all = new ArrayList<>();
        addAll(all, day, x.pupils(), x.groups(), x.instructors());
        for (int n = 0; n < 20; n++) {
            if (x.level(n) != BAD) {
                addAll(all, n, x.level(n), x.languages(n), x.family(n), x.group(n));
                addAll(all, x.scoreOf(n, 0), x.scoreOf(n, 1), x.scoreOf(n, 2), x.scoreOf(n, 3));
            }
        }
        for (int f = 0; f < 8; f++) {
            addAll(all, x.spread(f));
        }
        for (int g = 0; g < 4; g++) {
            if (x.size(g) != BAD) {
                addAll(all, g, x.groupLevel(g), x.size(g), x.instructor(g), x.waited(g), x.rides(g));
            }
        }
        for (int i = 0; i < 8; i++) {
            if (x.earnings(i) != BAD) {
                addAll(all, i, x.earnings(i));
            }
        }
        for (int l = 0; l < lifts; l++) {
            addAll(all, x.longestQueue(l), x.carried(l));
        }
        addAll(all, x.placed(), x.outOfLevel(), text);
        return all;
    }

    private static void addAll(List<Long> all, int... values) {
        for (int value : values) {
            all.add((long) value);
        }
    }

    @Edge(promise = 47, says = "h is 43053 at first")
    static void theDigestOfAnEmptySchool() {
        List<Long> due = new ArrayList<>();
        addAll(due, 0, 0, 0, 0, NONE, NONE, NONE, NONE, NONE, NONE, NONE, NONE, 0, 0, 0);
        Twins.noTrace("digest", SkiSchool::new, SkiSchool::digest, hash(due));
    }

    @Edge(promise = 47, says = "31 * h + v (long arithmetic that overflows)")
    static void theDigestWrapsAround() {
        BigInteger h = BigInteger.valueOf(43053).multiply(BigInteger.valueOf(31).pow(15));
        Check.holds("15 values are enough for it", h.compareTo(BigInteger.valueOf(Long.MAX_VALUE)) > 0);
        SkiSchool x = Schools.full();
        Twins.noTrace("digest", Schools::full, SkiSchool::digest, hash(values(x, 0, 3, 100)));
        SkiSchool y = Schools.busy();
        Twins.noTrace("digest", Schools::busy, SkiSchool::digest, hash(values(y, 1, 2, 10)));
    }

    @Edge(promise = 47, says = "for each pupil, by ascending numbers")
    static void theDigestWithGapsInTheNumbers() {
        SkiSchool x = Schools.full();
        x.removePupil(0);
        x.removePupil(9);
        x.closeGroup(0);
        x.closeGroup(2);
        x.dismiss(0);
        x.dismiss(6);
        Check.due("digest", x.digest(), hash(values(x, 0, 3, 100)));
    }

    @Edge(promise = 47, says = "the length of the text")
    static void theDigestOfTextsOfTheSameLength() {
        Check.due("the letters do not count", typed("abc").digest(), typed("xyz").digest());
        Check.due("one character more", typed("abcd").digest() - typed("abc").digest(), 1);
        Check.due("100 characters", typed(HUNDRED).digest() - typed("").digest(), 100);
    }

    @Edge(promise = 47, says = "the number of the day")
    static void theDigestOnDay500() {
        SkiSchool x = new SkiSchool();
        for (int day = 1; day <= 500; day++) {
            x.nextDay();
        }
        Check.due("digest", x.digest(), hash(values(new SkiSchool(), 500, 0, 0)));
    }

    @Edge(promise = 47, says = "the number and earnings()")
    static void theDigestWithTheGreatestEarnings() {
        SkiSchool x = Schools.staffed("g3a1;p3a;ia07:549791;");
        for (int n = 0; n < 39; n++) {
            x.pay(100);
        }
        x.pay(6);
        Check.due("earnings", x.earnings(0), 2147483646);
        Check.due("digest", x.digest(), hash(values(x, 0, 0, 0)));
    }
}
