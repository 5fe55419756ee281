/** Counts the answers of a test that are due and prints those that are not. */
final class Check {
    private static int right = 0;
    private static int wrong = 0;
    private static String about = "";

    private Check() {
    }

    /** What is checked from now on is printed with the name of its test ahead. */
    static void begin(String test) {
        about = test + ": ";
    }

    /** How many answers have been looked at so far. */
    static int seen() {
        return right + wrong;
    }

    static void due(String call, long got, long want) {
        if (got == want) {
            right++;
        } else {
            wrong++;
            System.out.println(about + call + " answered " + got + ", due is " + want);
        }
    }

    static void holds(String what, boolean held) {
        due(what, held ? 1 : 0, 1);
    }

    /** Types a text into a school, whatever stood there before. */
    static void write(SkiSchool school, String text) {
        school.clearText();
        for (int n = 0; n < text.length(); n++) {
            due("type " + text.charAt(n), school.type(text.charAt(n)), n + 1);
        }
    }

    /** Writes a roster and loads it. */
    static int load(SkiSchool school, String text) {
        write(school, text);
        return school.load();
    }

    static void scores(SkiSchool school, int pupil, int a, int b, int c, int d) {
        school.score(pupil, 0, a);
        school.score(pupil, 1, b);
        school.score(pupil, 2, c);
        school.score(pupil, 3, d);
    }

    static void end() {
        System.out.println(right + " answers as due, " + wrong + " not as due");
        if (wrong != 0) {
            System.exit(1);
        }
    }
}
