import java.util.Random;

/** All promises: random runs of calls, compared with PlainSchool. The seeds are fixed, so each run is the same each time. */
public final class RandomRunsTest {
    private static final int CALLS = 512;

    private final Random random;
    private final boolean calm;
    private final SkiSchool x = new SkiSchool();
    private final PlainSchool y = new PlainSchool();
    private final int seed;
    private int call = 0;

    private RandomRunsTest(int seed) {
        this.seed = seed;
        this.random = new Random(seed);
        this.calm = seed % 3 != 0;
    }

    public static void main(String[] args) {
        int runs = args.length > 0 ? Integer.parseInt(args[0]) : 400;
        int first = args.length > 1 ? Integer.parseInt(args[1]) : 0;
        for (int seed = first; seed < first + runs; seed++) {
            new RandomRunsTest(seed).run();
        }
        fullSchools(runs / 10);
        texts(20 * runs);
        Check.end();
    }

    /** Most often from a to b; in a run that is not calm, now and then a little or far outside of it. */
    private int some(int a, int b) {
        if (!calm && random.nextInt(40) == 0) {
            int[] odd = {a - 1, b + 1, SkiSchool.NONE, Integer.MIN_VALUE, Integer.MAX_VALUE, random.nextInt()};
            return odd[random.nextInt(odd.length)];
        }
        return a + random.nextInt(b - a + 1);
    }

    private int family() {
        return random.nextInt(3) == 0 ? SkiSchool.NONE : some(0, 3 + random.nextInt(5));
    }

    /** Few languages, so that pupils, groups and instructors find each other. */
    private int languages() {
        return random.nextInt(3) == 0 ? some(1, 63) : some(1, 3);
    }

    private int language() {
        return random.nextInt(4) == 0 ? some(0, 5) : some(0, 1);
    }

    private int aLevel() {
        return random.nextInt(4) == 0 ? some(0, 7) : some(2, 4);
    }

    private int aGroup() {
        return some(0, Math.max(0, random.nextInt(5) == 0 ? 3 : y.groups() - 1));
    }

    private int aPupil() {
        return some(0, random.nextInt(9) == 0 ? 19 : Math.max(0, y.pupils() - 1));
    }

    private void due(String name, long got, long want) {
        Check.due("seed " + seed + ", call " + call + ": " + name, got, want);
    }

    private void run() {
        while (call < CALLS) {
            call++;
            switch (random.nextInt(8)) {
                case 0 -> pupilCall();
                case 1 -> testCall();
                case 2 -> groupCall();
                case 3 -> planCall();
                case 4 -> instructorCall();
                case 5 -> liftCall();
                case 6 -> simulationCall();
                default -> textCall();
            }
            call++;
            due("digest", x.digest(), y.digest());
        }
    }

    private void pupilCall() {
        int pupil = aPupil();
        int family = some(0, 7);
        switch (random.nextInt(10)) {
            case 0, 1, 2, 3 -> {
                int level = aLevel();
                int languages = languages();
                int of = family();
                if (y.pupils() < 12 || !calm) {
                    due("addPupil", x.addPupil(level, languages, of), y.addPupil(level, languages, of));
                }
            }
            case 4 -> due("removePupil", x.removePupil(pupil), y.removePupil(pupil));
            case 5, 6 -> {
                boolean kept = random.nextInt(3) > 0;
                due("setTogether", x.setTogether(family, kept), y.setTogether(family, kept));
            }
            case 7 -> due("spread", x.spread(family), y.spread(family));
            case 8 -> {
                due("level", x.level(pupil), y.level(pupil));
                due("languages", x.languages(pupil), y.languages(pupil));
            }
            default -> {
                due("family", x.family(pupil), y.family(pupil));
                due("group", x.group(pupil), y.group(pupil));
            }
        }
    }

    private void testCall() {
        int pupil = aPupil();
        switch (random.nextInt(6)) {
            case 0 -> {
                int pass = some(0, 40);
                int minimum = some(0, 10);
                int drop = some(0, Math.max(0, Math.min(pass, 40)));
                due("setMarks", x.setMarks(pass, minimum, drop), y.setMarks(pass, minimum, drop));
            }
            case 1 -> due("nextDay", x.nextDay(), y.nextDay());
            case 2 -> {
                int exercise = some(0, 3);
                due("scoreOf", x.scoreOf(pupil, exercise), y.scoreOf(pupil, exercise));
            }
            default -> {
                int top = random.nextInt(11);
                for (int e = 0; e < 4; e++) {
                    int points = random.nextInt(top + 1);
                    int exercise = some(0, 3);
                    int at = random.nextInt(3) == 0 ? exercise : e;
                    due("score", x.score(pupil, at, points), y.score(pupil, at, points));
                }
                due("grade", x.grade(pupil), y.grade(pupil));
            }
        }
    }

    private void groupCall() {
        int group = aGroup();
        switch (random.nextInt(8)) {
            case 0, 1, 2 -> {
                int level = aLevel();
                int language = language();
                int capacity = some(1, 6);
                due("openGroup", x.openGroup(level, language, capacity), y.openGroup(level, language, capacity));
            }
            case 3 -> due("closeGroup", x.closeGroup(group), y.closeGroup(group));
            case 4 -> due("groupLevel", x.groupLevel(group), y.groupLevel(group));
            case 5 -> due("size", x.size(group), y.size(group));
            case 6 -> due("instructor", x.instructor(group), y.instructor(group));
            default -> due("groups", x.groups(), y.groups());
        }
    }

    private void planCall() {
        switch (random.nextInt(8)) {
            case 0 -> {
                int level = aLevel();
                int language = language();
                int capacity = some(1, 6);
                due("extraPlaced", x.extraPlaced(level, language, capacity), y.extraPlaced(level, language, capacity));
            }
            case 1 -> {
                int family = some(0, 7);
                due("splitGain", x.splitGain(family), y.splitGain(family));
            }
            case 2 -> due("placed", x.placed(), y.placed());
            case 3 -> due("outOfLevel", x.outOfLevel(), y.outOfLevel());
            default -> due("assign", x.assign(), y.assign());
        }
    }

    private void instructorCall() {
        int instructor = some(0, random.nextInt(4) == 0 ? 7 : Math.max(0, y.instructors() - 1));
        switch (random.nextInt(9)) {
            case 0, 1, 2 -> {
                int languages = languages();
                int lowest = some(0, 3);
                int highest = some(Math.max(0, Math.min(7, lowest)), 7);
                int wage = random.nextInt(3) == 0 ? some(1, 999999) : some(900000, 900003);
                due("hire", x.hire(languages, lowest, highest, wage), y.hire(languages, lowest, highest, wage));
            }
            case 3 -> due("dismiss", x.dismiss(instructor), y.dismiss(instructor));
            case 4 -> {
                int group = aGroup();
                due("canTeach", x.canTeach(instructor, group), y.canTeach(instructor, group));
            }
            case 5, 6 -> due("staff", x.staff(), y.staff());
            case 7 -> {
                int hours = some(1, 100);
                due("pay", x.pay(hours), y.pay(hours));
            }
            default -> due("earnings", x.earnings(instructor), y.earnings(instructor));
        }
    }

    private void liftCall() {
        int group = aGroup();
        int lift = some(0, 2);
        switch (random.nextInt(9)) {
            case 0, 1 -> {
                int seats = random.nextInt(3) == 0 ? some(1, 8) : some(1, 3);
                int interval = some(1, 10);
                int ride = some(1, 20);
                due("addLift", x.addLift(seats, interval, ride), y.addLift(seats, interval, ride));
            }
            case 2, 3, 4, 5, 6 -> {
                int slope = some(1, random.nextInt(2) == 0 ? 20 : 3);
                due("addStop", x.addStop(group, lift, slope), y.addStop(group, lift, slope));
            }
            case 7 -> due("clearStops", x.clearStops(group), y.clearStops(group));
            default -> {
                int minute = some(0, random.nextInt(2) == 0 ? 60 : 5);
                due("setStart", x.setStart(group, minute), y.setStart(group, minute));
            }
        }
    }

    private void simulationCall() {
        int group = aGroup();
        int lift = some(0, 2);
        int minutes = some(1, 180);
        switch (random.nextInt(6)) {
            case 0, 1 -> due("simulate", x.simulate(minutes), y.simulate(minutes));
            case 2 -> due("bestStart", x.bestStart(group, minutes), y.bestStart(group, minutes));
            case 3 -> due("waited", x.waited(group), y.waited(group));
            case 4 -> due("rides", x.rides(group), y.rides(group));
            default -> {
                due("longestQueue", x.longestQueue(lift), y.longestQueue(lift));
                due("carried", x.carried(lift), y.carried(lift));
            }
        }
    }

    private void textCall() {
        if (random.nextInt(4) == 0) {
            due("clearText", x.clearText(), y.clearText());
        }
        String more = entry();
        for (int n = 0; n < more.length(); n++) {
            due("type", x.type(more.charAt(n)), y.type(more.charAt(n)));
        }
        if (random.nextInt(3) == 0) {
            int code = some(32, 126);
            due("type", x.type(code), y.type(code));
        }
        if (random.nextInt(3) == 0) {
            due("load", x.load(), y.load());
        }
    }

    private String letters() {
        int set = 1 + random.nextInt(63);
        StringBuilder letters = new StringBuilder();
        for (int n = 0; n < 6; n++) {
            if ((set >> n & 1) == 1) {
                letters.append((char) ('a' + n));
            }
        }
        return letters.toString();
    }

    private String entry() {
        int level = random.nextInt(8);
        return switch (random.nextInt(4)) {
            case 0 -> "p" + level + letters() + (random.nextBoolean() ? ";" : "/" + random.nextInt(8) + ";");
            case 1 -> "g" + level + letters().charAt(0) + (1 + random.nextInt(6)) + ";";
            case 2 -> "i" + letters() + level + (level + random.nextInt(8 - level)) + ":" + (1 + random.nextInt(999999)) + ";";
            default -> "i" + letters() + "07:" + (1 + random.nextInt(99)) + ";";
        };
    }

    /** Twenty pupils, four groups and kept families: the plans with the most states. */
    private static void fullSchools(int schools) {
        for (int seed = 0; seed < schools; seed++) {
            RandomRunsTest run = new RandomRunsTest(3 * seed + 1);
            int levels = 1 + seed % 4;
            int sets = 1 + 2 * (seed % 3);
            for (int n = 0; n < 20; n++) {
                int level = 3 + run.random.nextInt(levels);
                int languages = 1 + run.random.nextInt(sets);
                int family = run.random.nextInt(2) == 0 ? SkiSchool.NONE : run.random.nextInt(8);
                run.due("addPupil", run.x.addPupil(level, languages, family), run.y.addPupil(level, languages, family));
            }
            for (int f = 0; f < 3; f++) {
                run.due("setTogether", run.x.setTogether(f, true), run.y.setTogether(f, true));
            }
            for (int n = 0; n < 4; n++) {
                int level = 3 + run.random.nextInt(levels);
                int language = run.random.nextInt(2);
                int capacity = 2 + run.random.nextInt(5);
                run.due("extraPlaced", run.x.extraPlaced(level, language, capacity), run.y.extraPlaced(level, language, capacity));
                run.due("openGroup", run.x.openGroup(level, language, capacity), run.y.openGroup(level, language, capacity));
            }
            run.due("assign", run.x.assign(), run.y.assign());
            run.due("digest", run.x.digest(), run.y.digest());
            run.due("splitGain", run.x.splitGain(0), run.y.splitGain(0));
            run.due("digest", run.x.digest(), run.y.digest());
        }
    }

    /** Rosters with at most one character changed, left out or put in. */
    private static void texts(int texts) {
        for (int seed = 0; seed < texts; seed++) {
            RandomRunsTest run = new RandomRunsTest(seed);
            StringBuilder text = new StringBuilder();
            for (int n = run.random.nextInt(5); n >= 0; n--) {
                text.append(run.entry());
            }
            String signs = "pgi/:;0123456789abcdefg ";
            char sign = signs.charAt(run.random.nextInt(signs.length()));
            int at = run.random.nextInt(text.length());
            switch (seed % 5) {
                case 0 -> text.setCharAt(at, sign);
                case 1 -> text.deleteCharAt(at);
                case 2 -> text.insert(at, sign);
                case 3 -> text.setLength(at);
                default -> { }
            }
            for (int n = 0; n < text.length(); n++) {
                run.due("type", run.x.type(text.charAt(n)), run.y.type(text.charAt(n)));
            }
            run.due("load of " + text, run.x.load(), run.y.load());
            run.due("digest after " + text, run.x.digest(), run.y.digest());
        }
    }
}
