import java.util.Arrays;

/**
 * A planner for a ski school: pupils who are graded by tests, groups by level and language, a plan
 * that gives a group to as many pupils as possible and keeps families together, the cheapest
 * instructors for the groups and their pay, and a simulation of the waiting times of the groups at
 * the lifts.
 */
public final class SkiSchool {
    public static final int BAD = -1, STATE = -2, FULL = -3, NONE = -9;

    private static final int MOST_PUPILS = 20, MOST_GROUPS = 4, MOST_INSTRUCTORS = 8, MOST_LIFTS = 3;
    private static final int TOP_LEVEL = 7, LANGUAGES = 6, ALL_LANGUAGES = 63, FAMILIES = 8;
    private static final int EXERCISES = 4, MOST_POINTS = 10, MOST_PASS = 40;
    private static final int MOST_CAPACITY = 6, MOST_WAGE = 999999, MOST_HOURS = 100, MOST_EARNINGS = 2147483647;
    private static final int MOST_SEATS = 8, MOST_INTERVAL = 10, MOST_RIDE = 20, MOST_SLOPE = 20;
    private static final int MOST_STOPS = 4, LATEST_START = 60, LATEST_BEST_START = 30, MOST_MINUTES = 180;
    private static final int MOST_TEXT = 100, FIRST_CODE = 32, LAST_CODE = 126, FAULT_BASE = -10;

    private final Pupil[] pupilAt = new Pupil[MOST_PUPILS];
    private final Group[] groupAt = new Group[MOST_GROUPS];
    private final Instructor[] instructorAt = new Instructor[MOST_INSTRUCTORS];
    private final Lift[] liftAt = new Lift[MOST_LIFTS];
    private final boolean[] together = new boolean[FAMILIES];
    private final Planner planner = new Planner();
    private final Staffing staffing = new Staffing();
    private final Simulation simulation = new Simulation();
    private final Roster roster = new Roster();
    private int liftCount = 0;
    private int passMark = 24;
    private int minimumMark = 4;
    private int dropMark = 8;
    private int day = 0;

    public SkiSchool() {
        for (int n = 0; n < MOST_PUPILS; n++) {
            pupilAt[n] = new Pupil();
        }
        for (int n = 0; n < MOST_GROUPS; n++) {
            groupAt[n] = new Group();
        }
        for (int n = 0; n < MOST_INSTRUCTORS; n++) {
            instructorAt[n] = new Instructor();
        }
        for (int n = 0; n < MOST_LIFTS; n++) {
            liftAt[n] = new Lift();
        }
    }

    // ---- pupils and families

    public int addPupil(int level, int languages, int family) {
        if (!within(level, 0, TOP_LEVEL) || !within(languages, 1, ALL_LANGUAGES)) {
            return BAD;
        }
        if (family != NONE && !isFamily(family)) {
            return BAD;
        }
        int number = freePupilNumber();
        if (!within(number, 0, MOST_PUPILS - 1)) {
            return FULL;
        }
        pupilAt[number].enrol(level, languages, family);
        separateIfBroken(family);
        return number;
    }

    public int removePupil(int pupil) {
        if (!hasPupil(pupil)) {
            return BAD;
        }
        pupilAt[pupil].present = false;
        return pupils();
    }

    public int pupils() {
        int count = 0;
        for (int n = 0; n < MOST_PUPILS; n++) {
            if (pupilAt[n].present) {
                count++;
            }
        }
        return count;
    }

    public int level(int pupil) {
        return hasPupil(pupil) ? pupilAt[pupil].level : BAD;
    }

    public int languages(int pupil) {
        return hasPupil(pupil) ? pupilAt[pupil].languages : BAD;
    }

    public int family(int pupil) {
        return hasPupil(pupil) ? pupilAt[pupil].family : BAD;
    }

    public int group(int pupil) {
        return hasPupil(pupil) ? pupilAt[pupil].group : BAD;
    }

    public int setTogether(int family, boolean together) {
        if (!isFamily(family)) {
            return BAD;
        }
        this.together[family] = together;
        return separateIfBroken(family);
    }

    public int spread(int family) {
        if (!isFamily(family)) {
            return BAD;
        }
        int lowest = TOP_LEVEL + 1;
        int highest = -1;
        for (int n = 0; n < MOST_PUPILS; n++) {
            if (pupilAt[n].isMember(family)) {
                lowest = Math.min(lowest, pupilAt[n].level);
                highest = Math.max(highest, pupilAt[n].level);
            }
        }
        return highest < 0 ? NONE : highest - lowest;
    }

    // ---- tests

    public int score(int pupil, int exercise, int points) {
        if (!hasPupil(pupil) || !isExercise(exercise) || !within(points, 0, MOST_POINTS)) {
            return BAD;
        }
        pupilAt[pupil].scores[exercise] = points;
        return pupilAt[pupil].countScores();
    }

    public int scoreOf(int pupil, int exercise) {
        if (!hasPupil(pupil) || !isExercise(exercise)) {
            return BAD;
        }
        return pupilAt[pupil].scores[exercise];
    }

    public int setMarks(int pass, int minimum, int drop) {
        if (!within(pass, 0, MOST_PASS) || !within(minimum, 0, MOST_POINTS) || !within(drop, 0, pass)) {
            return BAD;
        }
        int previous = passMark;
        passMark = pass;
        minimumMark = minimum;
        dropMark = drop;
        return previous;
    }

    public int grade(int pupil) {
        if (!hasPupil(pupil)) {
            return BAD;
        }
        Pupil graded = pupilAt[pupil];
        if (graded.countScores() < EXERCISES || graded.lastGraded == day) {
            return STATE;
        }
        graded.level = levelAfterTest(graded);
        graded.clearScores();
        graded.lastGraded = day;
        if (hasGroup(graded.group) && !groupAt[graded.group].suits(graded)) {
            graded.group = NONE;
            separateIfBroken(graded.family);
        }
        return graded.level;
    }

    public int nextDay() {
        day++;
        return day;
    }

    // ---- groups and plans

    public int openGroup(int level, int language, int capacity) {
        if (!isGroupKind(level, language, capacity)) {
            return BAD;
        }
        int number = freeGroupNumber();
        if (!within(number, 0, MOST_GROUPS - 1)) {
            return FULL;
        }
        groupAt[number].begin(level, language, capacity);
        return number;
    }

    public int closeGroup(int group) {
        if (!hasGroup(group)) {
            return BAD;
        }
        int left = 0;
        for (int n = 0; n < MOST_PUPILS; n++) {
            if (pupilAt[n].isIn(group)) {
                pupilAt[n].group = NONE;
                left++;
            }
        }
        groupAt[group].end();
        return left;
    }

    public int groups() {
        int count = 0;
        for (int n = 0; n < MOST_GROUPS; n++) {
            if (groupAt[n].open) {
                count++;
            }
        }
        return count;
    }

    public int groupLevel(int group) {
        return hasGroup(group) ? groupAt[group].level : BAD;
    }

    public int size(int group) {
        return hasGroup(group) ? countPupilsIn(group) : BAD;
    }

    public int instructor(int group) {
        return hasGroup(group) ? groupAt[group].instructor : BAD;
    }

    public int assign() {
        int placed = planner.findBest(pupilAt, groupAt, together);
        for (int n = 0; n < MOST_PUPILS; n++) {
            if (pupilAt[n].present) {
                pupilAt[n].group = planner.groupOf(n);
            }
        }
        return placed;
    }

    public int placed() {
        int count = 0;
        for (int n = 0; n < MOST_PUPILS; n++) {
            if (pupilAt[n].present && pupilAt[n].group != NONE) {
                count++;
            }
        }
        return count;
    }

    public int outOfLevel() {
        int count = 0;
        for (int n = 0; n < MOST_PUPILS; n++) {
            Pupil pupil = pupilAt[n];
            if (pupil.present && hasGroup(pupil.group) && groupAt[pupil.group].level != pupil.level) {
                count++;
            }
        }
        return count;
    }

    public int extraPlaced(int level, int language, int capacity) {
        if (!isGroupKind(level, language, capacity)) {
            return BAD;
        }
        int number = freeGroupNumber();
        if (!within(number, 0, MOST_GROUPS - 1)) {
            return FULL;
        }
        int without = planner.findBest(pupilAt, groupAt, together);
        groupAt[number].begin(level, language, capacity);
        int with = planner.findBest(pupilAt, groupAt, together);
        groupAt[number].end();
        return with - without;
    }

    public int splitGain(int family) {
        if (!isFamily(family)) {
            return BAD;
        }
        if (!together[family]) {
            return 0;
        }
        int kept = planner.findBest(pupilAt, groupAt, together);
        together[family] = false;
        int free = planner.findBest(pupilAt, groupAt, together);
        together[family] = true;
        return free - kept;
    }

    // ---- instructors

    public int hire(int languages, int lowest, int highest, int wage) {
        if (!within(languages, 1, ALL_LANGUAGES) || !within(wage, 1, MOST_WAGE)) {
            return BAD;
        }
        if (!within(lowest, 0, TOP_LEVEL) || !within(highest, lowest, TOP_LEVEL)) {
            return BAD;
        }
        int number = freeInstructorNumber();
        if (!within(number, 0, MOST_INSTRUCTORS - 1)) {
            return FULL;
        }
        instructorAt[number].begin(languages, lowest, highest, wage);
        return number;
    }

    public int dismiss(int instructor) {
        if (!hasInstructor(instructor)) {
            return BAD;
        }
        instructorAt[instructor].hired = false;
        for (int n = 0; n < MOST_GROUPS; n++) {
            if (groupAt[n].open && groupAt[n].instructor == instructor) {
                groupAt[n].instructor = NONE;
                return n;
            }
        }
        return NONE;
    }

    public int instructors() {
        int count = 0;
        for (int n = 0; n < MOST_INSTRUCTORS; n++) {
            if (instructorAt[n].hired) {
                count++;
            }
        }
        return count;
    }

    public int canTeach(int instructor, int group) {
        if (!hasInstructor(instructor) || !hasGroup(group)) {
            return BAD;
        }
        return instructorAt[instructor].teaches(groupAt[group]) ? 1 : 0;
    }

    public int staff() {
        for (int n = 0; n < MOST_GROUPS; n++) {
            staffing.wanted[n] = isActive(n);
        }
        int cost = staffing.findBest(groupAt, instructorAt);
        if (cost == NONE) {
            return STATE;
        }
        for (int n = 0; n < MOST_GROUPS; n++) {
            groupAt[n].instructor = staffing.best[n];
        }
        return cost;
    }

    public int pay(int hours) {
        if (!within(hours, 1, MOST_HOURS)) {
            return BAD;
        }
        for (int n = 0; n < MOST_GROUPS; n++) {
            if (isPaid(n) && !instructorAt[groupAt[n].instructor].hasRoomFor(hours)) {
                return FULL;
            }
        }
        int sum = 0;
        for (int n = 0; n < MOST_GROUPS; n++) {
            if (isPaid(n)) {
                Instructor paid = instructorAt[groupAt[n].instructor];
                paid.earned += paid.wage * hours;
                sum += paid.wage * hours;
            }
        }
        return sum;
    }

    public int earnings(int instructor) {
        return hasInstructor(instructor) ? instructorAt[instructor].earned : BAD;
    }

    // ---- lifts

    public int addLift(int seats, int interval, int ride) {
        if (!within(seats, 1, MOST_SEATS) || !within(interval, 1, MOST_INTERVAL) || !within(ride, 1, MOST_RIDE)) {
            return BAD;
        }
        if (!within(liftCount, 0, MOST_LIFTS - 1)) {
            return FULL;
        }
        Lift lift = liftAt[liftCount];
        lift.seats = seats;
        lift.interval = interval;
        lift.ride = ride;
        liftCount++;
        return liftCount - 1;
    }

    public int addStop(int group, int lift, int slope) {
        if (!hasGroup(group) || !hasLift(lift) || !within(slope, 1, MOST_SLOPE)) {
            return BAD;
        }
        Group changed = groupAt[group];
        if (!within(changed.stops, 0, MOST_STOPS - 1)) {
            return FULL;
        }
        changed.lifts[changed.stops] = lift;
        changed.slopes[changed.stops] = slope;
        changed.stops++;
        return changed.stops;
    }

    public int clearStops(int group) {
        if (!hasGroup(group)) {
            return BAD;
        }
        int had = groupAt[group].stops;
        groupAt[group].stops = 0;
        return had;
    }

    public int setStart(int group, int minute) {
        if (!hasGroup(group) || !within(minute, 0, LATEST_START)) {
            return BAD;
        }
        int previous = groupAt[group].start;
        groupAt[group].start = minute;
        return previous;
    }

    public int simulate(int minutes) {
        if (!within(minutes, 1, MOST_MINUTES)) {
            return BAD;
        }
        countPersons();
        simulation.begin(groupAt);
        simulation.run(groupAt, liftAt, liftCount, minutes);
        keepResults();
        int sum = 0;
        for (int n = 0; n < MOST_GROUPS; n++) {
            sum += groupAt[n].waited;
        }
        return sum;
    }

    public int waited(int group) {
        return hasGroup(group) ? groupAt[group].waited : BAD;
    }

    public int rides(int group) {
        return hasGroup(group) ? groupAt[group].rides : BAD;
    }

    public int longestQueue(int lift) {
        return hasLift(lift) ? liftAt[lift].longest : BAD;
    }

    public int carried(int lift) {
        return hasLift(lift) ? liftAt[lift].taken : BAD;
    }

    public int bestStart(int group, int minutes) {
        if (!hasGroup(group) || !within(minutes, 1, MOST_MINUTES)) {
            return BAD;
        }
        if (!takesPart(group)) {
            return STATE;
        }
        countPersons();
        int best = 0;
        int least = NONE;
        for (int start = 0; start <= LATEST_BEST_START; start++) {
            simulation.begin(groupAt);
            simulation.arrival[group] = start;
            simulation.run(groupAt, liftAt, liftCount, minutes);
            if (least == NONE || simulation.waited[group] < least) {
                least = simulation.waited[group];
                best = start;
            }
        }
        return best;
    }

    // ---- text

    public int type(int code) {
        if (!within(code, FIRST_CODE, LAST_CODE)) {
            return BAD;
        }
        if (!within(roster.length, 0, MOST_TEXT - 1)) {
            return FULL;
        }
        roster.text[roster.length] = (char) code;
        roster.length++;
        return roster.length;
    }

    public int clearText() {
        int had = roster.length;
        roster.length = 0;
        return had;
    }

    public int load() {
        int fault = roster.findFault();
        if (fault != NONE) {
            return FAULT_BASE - fault;
        }
        int done = 0;
        roster.at = 0;
        for (int n = 0; n < MOST_TEXT && roster.readEntry(); n++) {
            if (carryOutEntry() == FULL) {
                return done;
            }
            done++;
        }
        return done;
    }

    // ---- checksum

    public long digest() {
        long h = 43053;
        h = mix(h, day);
        h = mix(h, pupils());
        h = mix(h, groups());
        h = mix(h, instructors());
        h = mixPupils(h);
        for (int f = 0; f < FAMILIES; f++) {
            h = mix(h, spread(f));
        }
        h = mixGroups(h);
        h = mixInstructorsAndLifts(h);
        h = mix(h, placed());
        h = mix(h, outOfLevel());
        return mix(h, roster.length);
    }

    private static long mix(long h, int value) {
        return 31 * h + value;
    }

    private long mixPupils(long hash) {
        long h = hash;
        for (int n = 0; n < MOST_PUPILS; n++) {
            if (pupilAt[n].present) {
                h = mix(h, n);
                h = mix(h, level(n));
                h = mix(h, languages(n));
                h = mix(h, family(n));
                h = mix(h, group(n));
                for (int e = 0; e < EXERCISES; e++) {
                    h = mix(h, scoreOf(n, e));
                }
            }
        }
        return h;
    }

    private long mixGroups(long hash) {
        long h = hash;
        for (int n = 0; n < MOST_GROUPS; n++) {
            if (groupAt[n].open) {
                h = mix(h, n);
                h = mix(h, groupLevel(n));
                h = mix(h, size(n));
                h = mix(h, instructor(n));
                h = mix(h, waited(n));
                h = mix(h, rides(n));
            }
        }
        return h;
    }

    private long mixInstructorsAndLifts(long hash) {
        long h = hash;
        for (int n = 0; n < MOST_INSTRUCTORS; n++) {
            if (instructorAt[n].hired) {
                h = mix(h, n);
                h = mix(h, earnings(n));
            }
        }
        for (int n = 0; n < liftCount; n++) {
            h = mix(h, longestQueue(n));
            h = mix(h, carried(n));
        }
        return h;
    }

    // ---- what an argument means

    private static boolean within(int value, int lowest, int highest) {
        return value >= lowest && value <= highest;
    }

    private static boolean isFamily(int family) {
        return within(family, 0, FAMILIES - 1);
    }

    private static boolean isExercise(int exercise) {
        return within(exercise, 0, EXERCISES - 1);
    }

    private static boolean isGroupKind(int level, int language, int capacity) {
        return within(level, 0, TOP_LEVEL) && within(language, 0, LANGUAGES - 1) && within(capacity, 1, MOST_CAPACITY);
    }

    private boolean hasPupil(int number) {
        return within(number, 0, MOST_PUPILS - 1) && pupilAt[number].present;
    }

    private boolean hasGroup(int number) {
        return within(number, 0, MOST_GROUPS - 1) && groupAt[number].open;
    }

    private boolean hasInstructor(int number) {
        return within(number, 0, MOST_INSTRUCTORS - 1) && instructorAt[number].hired;
    }

    private boolean hasLift(int number) {
        return within(number, 0, MOST_LIFTS - 1) && number < liftCount;
    }

    private int freePupilNumber() {
        for (int n = 0; n < MOST_PUPILS; n++) {
            if (!pupilAt[n].present) {
                return n;
            }
        }
        return NONE;
    }

    private int freeGroupNumber() {
        for (int n = 0; n < MOST_GROUPS; n++) {
            if (!groupAt[n].open) {
                return n;
            }
        }
        return NONE;
    }

    private int freeInstructorNumber() {
        for (int n = 0; n < MOST_INSTRUCTORS; n++) {
            if (!instructorAt[n].hired) {
                return n;
            }
        }
        return NONE;
    }

    // ---- what several calls need

    /** Takes a kept family out of its groups if it is not in one place; tells how many members left a group. */
    private int separateIfBroken(int family) {
        if (!isFamily(family) || !together[family] || isInOnePlace(family)) {
            return 0;
        }
        int left = 0;
        for (int n = 0; n < MOST_PUPILS; n++) {
            if (pupilAt[n].isMember(family) && pupilAt[n].group != NONE) {
                pupilAt[n].group = NONE;
                left++;
            }
        }
        return left;
    }

    private boolean isInOnePlace(int family) {
        boolean found = false;
        int place = NONE;
        for (int n = 0; n < MOST_PUPILS; n++) {
            if (pupilAt[n].isMember(family)) {
                if (found && pupilAt[n].group != place) {
                    return false;
                }
                found = true;
                place = pupilAt[n].group;
            }
        }
        return true;
    }

    private int levelAfterTest(Pupil pupil) {
        int sum = pupil.sumScores();
        if (sum >= passMark && pupil.lowestScore() >= minimumMark) {
            return Math.min(pupil.level + 1, TOP_LEVEL);
        }
        return sum < dropMark ? Math.max(pupil.level - 1, 0) : pupil.level;
    }

    private int countPupilsIn(int group) {
        int count = 0;
        for (int n = 0; n < MOST_PUPILS; n++) {
            if (pupilAt[n].isIn(group)) {
                count++;
            }
        }
        return count;
    }

    private boolean isActive(int group) {
        return hasGroup(group) && countPupilsIn(group) > 0;
    }

    /** An instructor whose group has no pupils keeps it until the next staffing, but is not paid. */
    private boolean isPaid(int group) {
        return isActive(group) && hasInstructor(groupAt[group].instructor);
    }

    private boolean takesPart(int group) {
        return isActive(group) && groupAt[group].stops > 0;
    }

    private void countPersons() {
        for (int n = 0; n < MOST_GROUPS; n++) {
            int taught = takesPart(n) ? countPupilsIn(n) : 0;
            simulation.persons[n] = taught > 0 && groupAt[n].instructor != NONE ? taught + 1 : taught;
        }
    }

    private void keepResults() {
        for (int n = 0; n < MOST_GROUPS; n++) {
            groupAt[n].waited = simulation.waited[n];
            groupAt[n].rides = simulation.rides[n];
        }
        for (int n = 0; n < MOST_LIFTS; n++) {
            liftAt[n].longest = simulation.longest[n];
            liftAt[n].taken = simulation.taken[n];
        }
    }

    private int carryOutEntry() {
        if (roster.kind == 'p') {
            return addPupil(roster.level, roster.languages, roster.family);
        }
        if (roster.kind == 'g') {
            return openGroup(roster.level, roster.language, roster.capacity);
        }
        return hire(roster.languages, roster.lowest, roster.highest, roster.wage);
    }

    /** A pupil, or a number that no pupil has. */
    private static final class Pupil {
        boolean present = false;
        int level = 0;
        int languages = 0;
        int family = NONE;
        int group = NONE;
        int lastGraded = NONE;
        final int[] scores = new int[EXERCISES];

        void enrol(int newLevel, int newLanguages, int newFamily) {
            present = true;
            level = newLevel;
            languages = newLanguages;
            family = newFamily;
            group = NONE;
            lastGraded = NONE;
            clearScores();
        }

        boolean isMember(int ofFamily) {
            return present && family == ofFamily;
        }

        boolean isIn(int someGroup) {
            return present && group == someGroup;
        }

        void clearScores() {
            Arrays.fill(scores, NONE);
        }

        int countScores() {
            int count = 0;
            for (int e = 0; e < EXERCISES; e++) {
                if (scores[e] != NONE) {
                    count++;
                }
            }
            return count;
        }

        int sumScores() {
            int sum = 0;
            for (int e = 0; e < EXERCISES; e++) {
                sum += scores[e];
            }
            return sum;
        }

        int lowestScore() {
            int lowest = MOST_POINTS;
            for (int e = 0; e < EXERCISES; e++) {
                lowest = Math.min(lowest, scores[e]);
            }
            return lowest;
        }
    }

    /** A group, or a number that no group has; with its programme and its kept results. */
    private static final class Group {
        boolean open = false;
        int level = 0;
        int language = 0;
        int capacity = 0;
        int instructor = NONE;
        int start = 0;
        int stops = 0;
        final int[] lifts = new int[MOST_STOPS];
        final int[] slopes = new int[MOST_STOPS];
        int waited = 0;
        int rides = 0;

        void begin(int newLevel, int newLanguage, int newCapacity) {
            open = true;
            level = newLevel;
            language = newLanguage;
            capacity = newCapacity;
            instructor = NONE;
            start = 0;
            stops = 0;
        }

        void end() {
            open = false;
            instructor = NONE;
            waited = 0;
            rides = 0;
        }

        boolean suits(Pupil pupil) {
            return Math.abs(level - pupil.level) <= 1 && (pupil.languages >> language & 1) == 1;
        }
    }

    /** An instructor, or a number that no instructor has. */
    private static final class Instructor {
        boolean hired = false;
        int languages = 0;
        int lowest = 0;
        int highest = 0;
        int wage = 0;
        int earned = 0;

        void begin(int newLanguages, int newLowest, int newHighest, int newWage) {
            hired = true;
            languages = newLanguages;
            lowest = newLowest;
            highest = newHighest;
            wage = newWage;
            earned = 0;
        }

        boolean teaches(Group group) {
            return (languages >> group.language & 1) == 1 && within(group.level, lowest, highest);
        }

        boolean hasRoomFor(int hours) {
            return (long) earned + (long) wage * hours <= MOST_EARNINGS;
        }
    }

    /** A lift with its kept results. */
    private static final class Lift {
        int seats = 0;
        int interval = 0;
        int ride = 0;
        int longest = 0;
        int taken = 0;

        boolean departsAt(int minute) {
            return interval > 0 && minute % interval == 0;
        }
    }

    /**
     * Finds the best plan. A unit is a free pupil or a whole kept family; the units stand in the
     * order of their smallest pupils, so that the order of plans by pupils is the order by units.
     * A state is the number of seats left in each group, as a number with mixed radix.
     */
    private static final class Planner {
        /** What a placed pupil is worth: more than all pupils out of level take away, one each. */
        private static final int PLACED = 32;
        private static final int CHOICE_BITS = 3, CHOICE_MASK = 7;
        private static final int MOST_STATES = 7 * 7 * 7 * 7;
        private static final int UNFIT = -1;

        private int units = 0;
        private int states = 1;
        private final int[] unitOf = new int[MOST_PUPILS];
        private final int[] heads = new int[MOST_PUPILS];
        /** How many of a unit would be out of level in a group, or UNFIT. */
        private final int[][] out = new int[MOST_PUPILS][MOST_GROUPS];
        private final int[] given = new int[MOST_PUPILS];
        private final int[] unitOfFamily = new int[FAMILIES];
        private final int[] seats = new int[MOST_GROUPS];
        private final int[] stride = new int[MOST_GROUPS];
        private final int[] left = new int[MOST_GROUPS];
        private final int[] options = new int[MOST_GROUPS];
        /** What the best plan for the units seen so far is worth in each state. */
        private final int[] value = new int[MOST_STATES];
        /** The choices of these units, three bits each: 0 for none, else the group plus 1. */
        private final long[] choices = new long[MOST_STATES];

        /** Returns how many pupils get a group in the best plan; groupOf tells which. */
        int findBest(Pupil[] pupils, Group[] groups, boolean[] together) {
            gatherUnits(pupils, groups, together);
            limitSeats(groups);
            for (int state = 0; state < states; state++) {
                value[state] = 0;
                choices[state] = 0;
            }
            for (int u = Math.min(units, MOST_PUPILS) - 1; u >= 0; u--) {
                chooseFor(u);
            }
            followChoices();
            return (value[states - 1] + PLACED - 1) / PLACED;
        }

        int groupOf(int pupil) {
            int unit = within(pupil, 0, MOST_PUPILS - 1) ? unitOf[pupil] : NONE;
            return isUnit(unit) ? given[unit] : NONE;
        }

        private static boolean isUnit(int number) {
            return within(number, 0, MOST_PUPILS - 1);
        }

        private void gatherUnits(Pupil[] pupils, Group[] groups, boolean[] together) {
            units = 0;
            Arrays.fill(unitOfFamily, NONE);
            for (int n = 0; n < MOST_PUPILS; n++) {
                unitOf[n] = NONE;
                if (pupils[n].present) {
                    unitOf[n] = unitFor(pupils[n].family, together);
                    addHead(unitOf[n], pupils[n], groups);
                }
            }
        }

        private int unitFor(int family, boolean[] together) {
            if (!isFamily(family) || !together[family]) {
                return newUnit();
            }
            if (unitOfFamily[family] == NONE) {
                unitOfFamily[family] = newUnit();
            }
            return unitOfFamily[family];
        }

        /** There are never more units than pupils, so the last place is always one to use. */
        private int newUnit() {
            int unit = Math.min(units, MOST_PUPILS - 1);
            heads[unit] = 0;
            Arrays.fill(out[unit], 0);
            units = unit + 1;
            return unit;
        }

        private void addHead(int unit, Pupil pupil, Group[] groups) {
            if (!isUnit(unit)) {
                return;
            }
            heads[unit]++;
            for (int g = 0; g < MOST_GROUPS; g++) {
                if (!groups[g].open || !groups[g].suits(pupil)) {
                    out[unit][g] = UNFIT;
                } else if (out[unit][g] != UNFIT && groups[g].level != pupil.level) {
                    out[unit][g]++;
                }
            }
        }

        /** Seats that no pupil could take are left out, which keeps the number of states small. */
        private void limitSeats(Group[] groups) {
            states = 1;
            for (int g = 0; g < MOST_GROUPS; g++) {
                int wanted = 0;
                for (int u = 0; u < units && u < MOST_PUPILS; u++) {
                    if (out[u][g] != UNFIT) {
                        wanted += heads[u];
                    }
                }
                int capacity = groups[g].open ? Math.min(groups[g].capacity, MOST_CAPACITY) : 0;
                seats[g] = Math.min(wanted, capacity);
                stride[g] = states;
                states *= seats[g] + 1;
            }
            states = Math.max(1, Math.min(states, MOST_STATES));
        }

        /** Puts a unit ahead of those seen so far, from the last state on: a choice looks at smaller ones only. */
        private void chooseFor(int unit) {
            int count = listOptions(unit);
            if (count == 0) {
                return;
            }
            System.arraycopy(seats, 0, left, 0, MOST_GROUPS);
            for (int state = states - 1; state >= 0; state--) {
                int best = value[state];
                long choice = 0;
                for (int k = 0; k < count; k++) {
                    int g = options[k];
                    int rest = state - heads[unit] * stride[g];
                    if (left[g] >= heads[unit] && rest >= 0 && rest < states) {
                        int reached = value[rest] + heads[unit] * PLACED - out[unit][g];
                        if (reached >= best) {
                            best = reached;
                            choice = g + 1;
                        }
                    }
                }
                value[state] = best;
                choices[state] |= choice << CHOICE_BITS * unit;
                countDown();
            }
        }

        /** The greatest group comes first, so that among equal ones the smallest is chosen last and stays. */
        private int listOptions(int unit) {
            int count = 0;
            for (int g = MOST_GROUPS - 1; g >= 0; g--) {
                if (out[unit][g] != UNFIT && seats[g] >= heads[unit]) {
                    options[count] = g;
                    count++;
                }
            }
            return count;
        }

        /** Takes 1 from the state whose digits are the seats left. */
        private void countDown() {
            for (int g = 0; g < MOST_GROUPS; g++) {
                if (left[g] > 0) {
                    left[g]--;
                    return;
                }
                left[g] = seats[g];
            }
        }

        private void followChoices() {
            int state = states - 1;
            for (int u = 0; u < units && u < MOST_PUPILS; u++) {
                int choice = (int) (choices[state] >>> CHOICE_BITS * u) & CHOICE_MASK;
                given[u] = NONE;
                if (within(choice, 1, MOST_GROUPS)) {
                    given[u] = choice - 1;
                    state = Math.max(0, state - heads[u] * stride[choice - 1]);
                }
            }
        }
    }

    /** Finds the best staffing by trying the instructors by ascending numbers, the groups likewise. */
    private static final class Staffing {
        /** More than any staffing costs. */
        private static final int TOO_DEAR = MOST_GROUPS * MOST_WAGE + 1;

        final boolean[] wanted = new boolean[MOST_GROUPS];
        final int[] best = new int[MOST_GROUPS];
        private final int[] trial = new int[MOST_GROUPS];
        private int cheapest = TOO_DEAR;

        /** Returns the cost, or NONE if there is no staffing. */
        int findBest(Group[] groups, Instructor[] instructors) {
            cheapest = TOO_DEAR;
            tryFrom(this, 0, 0, 0, groups, instructors);
            return cheapest == TOO_DEAR ? NONE : cheapest;
        }

        /** Only a smaller cost replaces the best one: among equals the first one tried is due. */
        private static void tryFrom(Staffing s, int group, int taken, int cost, Group[] groups, Instructor[] instructors) {
            if (cost >= s.cheapest) {
                return;
            }
            if (group >= MOST_GROUPS) {
                s.cheapest = cost;
                System.arraycopy(s.trial, 0, s.best, 0, MOST_GROUPS);
                return;
            }
            s.trial[group] = NONE;
            if (!s.wanted[group]) {
                tryFrom(s, group + 1, taken, cost, groups, instructors);
                return;
            }
            for (int n = 0; n < MOST_INSTRUCTORS; n++) {
                boolean free = instructors[n].hired && (taken >> n & 1) == 0;
                if (free && instructors[n].teaches(groups[group])) {
                    s.trial[group] = n;
                    tryFrom(s, group + 1, taken | 1 << n, cost + instructors[n].wage, groups, instructors);
                }
            }
        }
    }

    /** Goes through the minutes of a simulation. What it counts is kept only by the call simulate. */
    private static final class Simulation {
        /** 0 for a group that does not take part. */
        final int[] persons = new int[MOST_GROUPS];
        final int[] arrival = new int[MOST_GROUPS];
        final int[] waited = new int[MOST_GROUPS];
        final int[] rides = new int[MOST_GROUPS];
        final int[] longest = new int[MOST_LIFTS];
        final int[] taken = new int[MOST_LIFTS];
        private final int[] stop = new int[MOST_GROUPS];
        private final int[] waiting = new int[MOST_GROUPS];
        /** The numbers of the groups in the queue of each lift, the front first. */
        private final int[][] queue = new int[MOST_LIFTS][MOST_GROUPS];
        private final int[] queued = new int[MOST_LIFTS];

        void begin(Group[] groups) {
            for (int g = 0; g < MOST_GROUPS; g++) {
                arrival[g] = groups[g].start;
            }
            Arrays.fill(waited, 0);
            Arrays.fill(rides, 0);
            Arrays.fill(longest, 0);
            Arrays.fill(taken, 0);
            Arrays.fill(stop, 0);
            Arrays.fill(waiting, 0);
            Arrays.fill(queued, 0);
        }

        void run(Group[] groups, Lift[] lifts, int liftCount, int minutes) {
            int used = Math.min(liftCount, MOST_LIFTS);
            for (int minute = 0; minute < minutes; minute++) {
                joinQueues(groups, minute);
                for (int l = 0; l < used; l++) {
                    if (lifts[l].departsAt(minute)) {
                        depart(l, lifts[l], groups, minute);
                    }
                }
                for (int l = 0; l < used; l++) {
                    waitAMinute(l);
                }
            }
        }

        private void joinQueues(Group[] groups, int minute) {
            for (int g = 0; g < MOST_GROUPS; g++) {
                if (persons[g] > 0 && arrival[g] == minute && within(stop[g], 0, MOST_STOPS - 1)) {
                    int lift = groups[g].lifts[stop[g]];
                    if (within(lift, 0, MOST_LIFTS - 1) && within(queued[lift], 0, MOST_GROUPS - 1)) {
                        queue[lift][queued[lift]] = g;
                        queued[lift]++;
                        waiting[g] = persons[g];
                    }
                }
            }
        }

        private void depart(int lift, Lift departing, Group[] groups, int minute) {
            int free = departing.seats;
            for (int turn = 0; turn < MOST_GROUPS && free > 0 && queued[lift] > 0; turn++) {
                int front = queue[lift][0];
                if (!within(front, 0, MOST_GROUPS - 1)) {
                    return;
                }
                int boarding = Math.min(free, waiting[front]);
                waiting[front] -= boarding;
                free -= boarding;
                taken[lift] += boarding;
                if (waiting[front] == 0) {
                    leaveQueue(lift);
                    completeRide(front, groups[front], minute + departing.ride);
                }
            }
        }

        private void leaveQueue(int lift) {
            for (int k = 1; k < queued[lift] && k < MOST_GROUPS; k++) {
                queue[lift][k - 1] = queue[lift][k];
            }
            queued[lift]--;
        }

        private void completeRide(int number, Group group, int top) {
            rides[number]++;
            if (within(stop[number], 0, MOST_STOPS - 1)) {
                arrival[number] = top + group.slopes[stop[number]];
            }
            stop[number]++;
            if (stop[number] >= group.stops) {
                stop[number] = 0;
            }
        }

        private void waitAMinute(int lift) {
            int length = 0;
            for (int k = 0; k < queued[lift] && k < MOST_GROUPS; k++) {
                int group = queue[lift][k];
                if (within(group, 0, MOST_GROUPS - 1)) {
                    length += waiting[group];
                    waited[group] += waiting[group];
                }
            }
            longest[lift] = Math.max(longest[lift], length);
        }
    }

    /** The text, and the reading of its entries: at a fault, `at` stays at the character that cannot stand there. */
    private static final class Roster {
        private static final int WAGE_DIGITS = 6;

        final char[] text = new char[MOST_TEXT];
        int length = 0;
        int at = 0;
        char kind = 'p';
        int level = 0;
        int languages = 0;
        int family = NONE;
        int language = 0;
        int capacity = 0;
        int lowest = 0;
        int highest = 0;
        int wage = 0;

        /** Returns NONE if the text is a roster. */
        int findFault() {
            at = 0;
            for (int n = 0; n < MOST_TEXT && at < length; n++) {
                if (!readEntry()) {
                    return at;
                }
            }
            return NONE;
        }

        /** Reads an entry; tells whether a whole one stood there. */
        boolean readEntry() {
            if (skip('p')) {
                kind = 'p';
                return readPupil();
            }
            if (skip('g')) {
                kind = 'g';
                return readGroup();
            }
            kind = 'i';
            return skip('i') && readInstructor();
        }

        private boolean readPupil() {
            level = readDigit(0, TOP_LEVEL);
            if (level < 0 || !readLanguages()) {
                return false;
            }
            family = NONE;
            if (skip('/')) {
                family = readDigit(0, FAMILIES - 1);
                if (family < 0) {
                    return false;
                }
            }
            return skip(';');
        }

        private boolean readGroup() {
            level = readDigit(0, TOP_LEVEL);
            if (level < 0) {
                return false;
            }
            language = readLanguage(0);
            if (language < 0) {
                return false;
            }
            capacity = readDigit(1, MOST_CAPACITY);
            return capacity > 0 && skip(';');
        }

        private boolean readInstructor() {
            if (!readLanguages()) {
                return false;
            }
            lowest = readDigit(0, TOP_LEVEL);
            if (lowest < 0) {
                return false;
            }
            highest = readDigit(lowest, TOP_LEVEL);
            return highest >= 0 && skip(':') && readWage() && skip(';');
        }

        private boolean readLanguages() {
            languages = 0;
            int lowestNext = 0;
            for (int n = 0; n < LANGUAGES; n++) {
                int read = readLanguage(lowestNext);
                if (read < 0) {
                    break;
                }
                languages |= 1 << read;
                lowestNext = read + 1;
            }
            return languages != 0;
        }

        private boolean readWage() {
            wage = readDigit(1, 9);
            if (wage < 0) {
                return false;
            }
            for (int n = 1; n < WAGE_DIGITS; n++) {
                int digit = readDigit(0, 9);
                if (digit < 0) {
                    break;
                }
                wage = 10 * wage + digit;
            }
            return true;
        }

        private int readDigit(int least, int greatest) {
            return readSign('0' + least, '0' + greatest) - '0';
        }

        private int readLanguage(int least) {
            return readSign('a' + least, 'a' + LANGUAGES - 1) - 'a';
        }

        private boolean skip(char sign) {
            return readSign(sign, sign) == sign;
        }

        /** Returns the character here and goes past it, or 0 if none from first to last stands here. */
        private int readSign(int first, int last) {
            if (at < 0 || at >= length || at >= MOST_TEXT) {
                return 0;
            }
            char sign = text[at];
            if (sign < first || sign > last) {
                return 0;
            }
            at++;
            return sign;
        }
    }
}
