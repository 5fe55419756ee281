import java.util.ArrayDeque;
import java.util.ArrayList;
import java.util.Collections;
import java.util.Deque;
import java.util.HashMap;
import java.util.List;
import java.util.Map;
import java.util.TreeMap;
import java.util.regex.Matcher;
import java.util.regex.Pattern;

/**
 * The document once more, slowly: pupil by pupil, person by person, plan by plan. The random runs
 * compare SkiSchool with it, so nothing here is taken from there.
 */
final class PlainSchool {
    private static final int BAD = -1, STATE = -2, FULL = -3, NONE = -9;
    private static final Pattern ROSTER = Pattern.compile(
        "(?:p[0-7](?=[a-f])a?b?c?d?e?f?(?:/[0-7])?;"
        + "|g[0-7][a-f][1-6];"
        + "|i(?=[a-f])a?b?c?d?e?f?(?:0[0-7]|1[1-7]|2[2-7]|3[3-7]|4[4-7]|5[5-7]|6[67]|77):[1-9][0-9]{0,5};)*");

    private static final class Pupil {
        int level, languages, family, group = NONE, gradedOn = -1;
        Integer[] scores = new Integer[4];
    }

    private static final class Group {
        int level, language, capacity, instructor = NONE, start, waited, rides;
        List<int[]> stops = new ArrayList<>();
    }

    private static final class Instructor {
        int languages, lowest, highest, wage;
        long earnings;
    }

    private static final class Lift {
        int seats, interval, ride, longest, carried;
    }

    /** The results of a simulation. */
    private static final class Results {
        Map<Integer, Integer> waited = new HashMap<>(), rides = new HashMap<>();
        Map<Integer, Integer> longest = new HashMap<>(), carried = new HashMap<>();
    }

    private final TreeMap<Integer, Pupil> pupils = new TreeMap<>();
    private final TreeMap<Integer, Group> groups = new TreeMap<>();
    private final TreeMap<Integer, Instructor> instructors = new TreeMap<>();
    private final List<Lift> lifts = new ArrayList<>();
    private final boolean[] together = new boolean[8];
    private int day = 0, pass = 24, minimum = 4, drop = 8;
    private String text = "";

    private static int smallestFree(Map<Integer, ?> taken) {
        int n = 0;
        while (taken.containsKey(n)) {
            n++;
        }
        return n;
    }

    int addPupil(int level, int languages, int family) {
        if (level < 0 || level > 7 || languages < 1 || languages > 63 || family != NONE && (family < 0 || family > 7)) {
            return BAD;
        }
        if (pupils.size() == 20) {
            return FULL;
        }
        Pupil p = new Pupil();
        p.level = level;
        p.languages = languages;
        p.family = family;
        int number = smallestFree(pupils);
        pupils.put(number, p);
        mend();
        return number;
    }

    /** Makes the rule of the kept families true again; returns how many left a group. */
    private int mend() {
        int left = 0;
        for (int f = 0; f < 8; f++) {
            List<Pupil> members = members(f);
            boolean broken = false;
            for (Pupil a : members) {
                for (Pupil b : members) {
                    broken |= a.group != b.group;
                }
            }
            if (together[f] && broken) {
                for (Pupil p : members) {
                    left += p.group == NONE ? 0 : 1;
                    p.group = NONE;
                }
            }
        }
        return left;
    }

    private List<Pupil> members(int family) {
        List<Pupil> members = new ArrayList<>();
        for (Pupil p : pupils.values()) {
            if (p.family == family) {
                members.add(p);
            }
        }
        return members;
    }

    int removePupil(int pupil) {
        return pupils.remove(pupil) == null ? BAD : pupils.size();
    }

    int pupils() {
        return pupils.size();
    }

    int level(int pupil) {
        return pupils.containsKey(pupil) ? pupils.get(pupil).level : BAD;
    }

    int languages(int pupil) {
        return pupils.containsKey(pupil) ? pupils.get(pupil).languages : BAD;
    }

    int family(int pupil) {
        return pupils.containsKey(pupil) ? pupils.get(pupil).family : BAD;
    }

    int group(int pupil) {
        return pupils.containsKey(pupil) ? pupils.get(pupil).group : BAD;
    }

    int setTogether(int family, boolean kept) {
        if (family < 0 || family > 7) {
            return BAD;
        }
        together[family] = kept;
        return mend();
    }

    int spread(int family) {
        if (family < 0 || family > 7) {
            return BAD;
        }
        List<Integer> levels = new ArrayList<>();
        members(family).forEach(p -> levels.add(p.level));
        return levels.isEmpty() ? NONE : Collections.max(levels) - Collections.min(levels);
    }

    int score(int pupil, int exercise, int points) {
        if (!pupils.containsKey(pupil) || exercise < 0 || exercise > 3 || points < 0 || points > 10) {
            return BAD;
        }
        pupils.get(pupil).scores[exercise] = points;
        return scoresOf(pupil).size();
    }

    private List<Integer> scoresOf(int pupil) {
        List<Integer> scores = new ArrayList<>();
        for (Integer score : pupils.get(pupil).scores) {
            if (score != null) {
                scores.add(score);
            }
        }
        return scores;
    }

    int scoreOf(int pupil, int exercise) {
        if (!pupils.containsKey(pupil) || exercise < 0 || exercise > 3) {
            return BAD;
        }
        Integer score = pupils.get(pupil).scores[exercise];
        return score == null ? NONE : score;
    }

    int setMarks(int newPass, int newMinimum, int newDrop) {
        if (newPass < 0 || newPass > 40 || newMinimum < 0 || newMinimum > 10 || newDrop < 0 || newDrop > newPass) {
            return BAD;
        }
        int previous = pass;
        pass = newPass;
        minimum = newMinimum;
        drop = newDrop;
        return previous;
    }

    int grade(int pupil) {
        if (!pupils.containsKey(pupil)) {
            return BAD;
        }
        Pupil p = pupils.get(pupil);
        List<Integer> scores = scoresOf(pupil);
        if (scores.size() < 4 || p.gradedOn == day) {
            return STATE;
        }
        int sum = scores.stream().mapToInt(Integer::intValue).sum();
        boolean passes = sum >= pass && scores.stream().allMatch(s -> s >= minimum);
        if (passes && p.level != 7) {
            p.level++;
        }
        if (!passes && sum < drop && p.level != 0) {
            p.level--;
        }
        p.scores = new Integer[4];
        p.gradedOn = day;
        if (p.group != NONE && !fits(p, groups.get(p.group))) {
            p.group = NONE;
            mend();
        }
        return p.level;
    }

    int nextDay() {
        return ++day;
    }

    private static boolean fits(Pupil p, Group g) {
        int apart = p.level - g.level;
        return apart >= -1 && apart <= 1 && (p.languages & 1 << g.language) != 0;
    }

    private static boolean badGroup(int level, int language, int capacity) {
        return level < 0 || level > 7 || language < 0 || language > 5 || capacity < 1 || capacity > 6;
    }

    private static Group newGroup(int level, int language, int capacity) {
        Group g = new Group();
        g.level = level;
        g.language = language;
        g.capacity = capacity;
        return g;
    }

    int openGroup(int level, int language, int capacity) {
        if (badGroup(level, language, capacity)) {
            return BAD;
        }
        if (groups.size() == 4) {
            return FULL;
        }
        int number = smallestFree(groups);
        groups.put(number, newGroup(level, language, capacity));
        return number;
    }

    int closeGroup(int group) {
        if (groups.remove(group) == null) {
            return BAD;
        }
        int left = 0;
        for (Pupil p : pupils.values()) {
            if (p.group == group) {
                p.group = NONE;
                left++;
            }
        }
        return left;
    }

    int groups() {
        return groups.size();
    }

    int groupLevel(int group) {
        return groups.containsKey(group) ? groups.get(group).level : BAD;
    }

    int size(int group) {
        if (!groups.containsKey(group)) {
            return BAD;
        }
        return (int) pupils.values().stream().filter(p -> p.group == group).count();
    }

    int instructor(int group) {
        return groups.containsKey(group) ? groups.get(group).instructor : BAD;
    }

    // ---- plans: pupil by pupil, with what is decided so far as the state

    /** What the best plan gives to the pupils from some one on. */
    private record Rest(int placed, int out, List<Integer> groups) {
        boolean isBetterThan(Rest other) {
            if (placed != other.placed) {
                return placed > other.placed;
            }
            if (out != other.out) {
                return out < other.out;
            }
            for (int n = 0; n < groups.size(); n++) {
                int mine = groups.get(n);
                int others = other.groups.get(n);
                if (mine != others) {
                    return others == NONE || mine != NONE && mine < others;
                }
            }
            return false;
        }
    }

    private Rest bestPlan(TreeMap<Integer, Group> in, int freed) {
        int[] seats = new int[4];
        in.forEach((number, g) -> seats[number] = g.capacity);
        int[] places = new int[8];
        boolean[] kept = together.clone();
        if (freed >= 0) {
            kept[freed] = false;
        }
        java.util.Arrays.fill(places, Integer.MAX_VALUE);
        return bestRest(new ArrayList<>(pupils.values()), 0, in, seats, places, kept, new HashMap<>());
    }

    private static Rest bestRest(List<Pupil> all, int from, TreeMap<Integer, Group> in, int[] seats, int[] places,
            boolean[] kept, Map<String, Rest> known) {
        if (from == all.size()) {
            return new Rest(0, 0, List.of());
        }
        String key = from + java.util.Arrays.toString(seats) + java.util.Arrays.toString(places);
        if (known.containsKey(key)) {
            return known.get(key);
        }
        Pupil p = all.get(from);
        boolean bound = p.family != NONE && kept[p.family];
        Rest best = null;
        for (int choice = -1; choice < 4; choice++) {
            int group = choice < 0 ? NONE : choice;
            if (group != NONE && (!in.containsKey(group) || seats[group] == 0 || !fits(p, in.get(group)))) {
                continue;
            }
            if (bound && places[p.family] != Integer.MAX_VALUE && places[p.family] != group) {
                continue;
            }
            int[] newSeats = seats.clone();
            int[] newPlaces = places.clone();
            if (group != NONE) {
                newSeats[group]--;
            }
            if (bound) {
                newPlaces[p.family] = group;
            }
            Rest rest = bestRest(all, from + 1, in, newSeats, newPlaces, kept, known);
            if (rest != null) {
                List<Integer> given = new ArrayList<>(List.of(group));
                given.addAll(rest.groups);
                int placed = rest.placed + (group == NONE ? 0 : 1);
                int out = rest.out + (group == NONE || in.get(group).level == p.level ? 0 : 1);
                Rest plan = new Rest(placed, out, given);
                best = best == null || plan.isBetterThan(best) ? plan : best;
            }
        }
        known.put(key, best);
        return best;
    }

    int assign() {
        Rest plan = bestPlan(groups, -1);
        int n = 0;
        for (Pupil p : pupils.values()) {
            p.group = plan.groups.get(n++);
        }
        return plan.placed;
    }

    int placed() {
        return (int) pupils.values().stream().filter(p -> p.group != NONE).count();
    }

    int outOfLevel() {
        return (int) pupils.values().stream().filter(p -> p.group != NONE && groups.get(p.group).level != p.level).count();
    }

    int extraPlaced(int level, int language, int capacity) {
        if (badGroup(level, language, capacity)) {
            return BAD;
        }
        if (groups.size() == 4) {
            return FULL;
        }
        TreeMap<Integer, Group> more = new TreeMap<>(groups);
        more.put(smallestFree(groups), newGroup(level, language, capacity));
        return bestPlan(more, -1).placed - bestPlan(groups, -1).placed;
    }

    int splitGain(int family) {
        if (family < 0 || family > 7) {
            return BAD;
        }
        return bestPlan(groups, family).placed - bestPlan(groups, -1).placed;
    }

    int hire(int languages, int lowest, int highest, int wage) {
        if (languages < 1 || languages > 63 || lowest < 0 || lowest > highest || highest > 7 || wage < 1 || wage > 999999) {
            return BAD;
        }
        if (instructors.size() == 8) {
            return FULL;
        }
        Instructor i = new Instructor();
        i.languages = languages;
        i.lowest = lowest;
        i.highest = highest;
        i.wage = wage;
        int number = smallestFree(instructors);
        instructors.put(number, i);
        return number;
    }

    int dismiss(int instructor) {
        if (instructors.remove(instructor) == null) {
            return BAD;
        }
        int had = NONE;
        for (Map.Entry<Integer, Group> e : groups.entrySet()) {
            if (e.getValue().instructor == instructor) {
                e.getValue().instructor = NONE;
                had = e.getKey();
            }
        }
        return had;
    }

    int instructors() {
        return instructors.size();
    }

    private static boolean teaches(Instructor i, Group g) {
        return (i.languages & 1 << g.language) != 0 && g.level >= i.lowest && g.level <= i.highest;
    }

    int canTeach(int instructor, int group) {
        if (!instructors.containsKey(instructor) || !groups.containsKey(group)) {
            return BAD;
        }
        return teaches(instructors.get(instructor), groups.get(group)) ? 1 : 0;
    }

    int staff() {
        List<List<Integer>> staffings = new ArrayList<>(List.of(List.of()));
        for (int g : groups.keySet()) {
            List<List<Integer>> longer = new ArrayList<>();
            for (List<Integer> staffing : staffings) {
                for (int i = NONE; i < 8; i++) {
                    boolean due = size(g) == 0 ? i == NONE
                        : instructors.containsKey(i) && teaches(instructors.get(i), groups.get(g)) && !staffing.contains(i);
                    if (due) {
                        List<Integer> more = new ArrayList<>(staffing);
                        more.add(i);
                        longer.add(more);
                    }
                }
            }
            staffings = longer;
        }
        List<Integer> best = null;
        int least = 0;
        for (List<Integer> staffing : staffings) {
            int cost = staffing.stream().mapToInt(i -> i == NONE ? 0 : instructors.get(i).wage).sum();
            if (best == null || cost < least || cost == least && isSmaller(staffing, best)) {
                best = staffing;
                least = cost;
            }
        }
        if (best == null) {
            return STATE;
        }
        int n = 0;
        for (Group g : groups.values()) {
            g.instructor = best.get(n++);
        }
        return least;
    }

    private static boolean isSmaller(List<Integer> a, List<Integer> b) {
        for (int n = 0; n < a.size(); n++) {
            if (!a.get(n).equals(b.get(n))) {
                return a.get(n) < b.get(n);
            }
        }
        return false;
    }

    int pay(int hours) {
        if (hours < 1 || hours > 100) {
            return BAD;
        }
        List<Instructor> paid = new ArrayList<>();
        groups.forEach((number, g) -> {
            if (size(number) > 0 && g.instructor != NONE) {
                paid.add(instructors.get(g.instructor));
            }
        });
        int sum = 0;
        for (Instructor i : paid) {
            if (i.earnings + (long) hours * i.wage > 2147483647L) {
                return FULL;
            }
            sum += hours * i.wage;
        }
        paid.forEach(i -> i.earnings += (long) hours * i.wage);
        return sum;
    }

    int earnings(int instructor) {
        return instructors.containsKey(instructor) ? (int) instructors.get(instructor).earnings : BAD;
    }

    int addLift(int seats, int interval, int ride) {
        if (seats < 1 || seats > 8 || interval < 1 || interval > 10 || ride < 1 || ride > 20) {
            return BAD;
        }
        if (lifts.size() == 3) {
            return FULL;
        }
        Lift lift = new Lift();
        lift.seats = seats;
        lift.interval = interval;
        lift.ride = ride;
        lifts.add(lift);
        return lifts.size() - 1;
    }

    private boolean hasLift(int lift) {
        return lift >= 0 && lift < lifts.size();
    }

    int addStop(int group, int lift, int slope) {
        if (!groups.containsKey(group) || !hasLift(lift) || slope < 1 || slope > 20) {
            return BAD;
        }
        List<int[]> stops = groups.get(group).stops;
        if (stops.size() == 4) {
            return FULL;
        }
        stops.add(new int[] {lift, slope});
        return stops.size();
    }

    int clearStops(int group) {
        if (!groups.containsKey(group)) {
            return BAD;
        }
        int had = groups.get(group).stops.size();
        groups.get(group).stops.clear();
        return had;
    }

    int setStart(int group, int minute) {
        if (!groups.containsKey(group) || minute < 0 || minute > 60) {
            return BAD;
        }
        int previous = groups.get(group).start;
        groups.get(group).start = minute;
        return previous;
    }

    // ---- simulation: each queue is a line of persons, each of whom is the number of the group

    private boolean takesPart(int group) {
        return size(group) > 0 && !groups.get(group).stops.isEmpty();
    }

    private Results simulated(int minutes) {
        Results r = new Results();
        List<Deque<Integer>> lines = new ArrayList<>();
        lifts.forEach(l -> lines.add(new ArrayDeque<>()));
        Map<Integer, Integer> stop = new HashMap<>();
        Map<Integer, Integer> arrival = new HashMap<>();
        for (int g : groups.keySet()) {
            stop.put(g, 0);
            arrival.put(g, groups.get(g).start);
        }
        for (int minute = 0; minute < minutes; minute++) {
            for (int g : groups.keySet()) {
                if (takesPart(g) && arrival.get(g) == minute) {
                    int persons = size(g) + (groups.get(g).instructor == NONE ? 0 : 1);
                    int lift = groups.get(g).stops.get(stop.get(g))[0];
                    lines.get(lift).addAll(Collections.nCopies(persons, g));
                }
            }
            for (int l = 0; l < lifts.size(); l++) {
                if (minute % lifts.get(l).interval == 0) {
                    for (int seat = 0; seat < lifts.get(l).seats && !lines.get(l).isEmpty(); seat++) {
                        int g = lines.get(l).removeFirst();
                        r.carried.merge(l, 1, Integer::sum);
                        if (!lines.get(l).contains(g)) {
                            r.rides.merge(g, 1, Integer::sum);
                            List<int[]> stops = groups.get(g).stops;
                            arrival.put(g, minute + lifts.get(l).ride + stops.get(stop.get(g))[1]);
                            stop.put(g, (stop.get(g) + 1) % stops.size());
                        }
                    }
                }
            }
            for (int l = 0; l < lifts.size(); l++) {
                lines.get(l).forEach(g -> r.waited.merge(g, 1, Integer::sum));
                r.longest.merge(l, lines.get(l).size(), Math::max);
            }
        }
        return r;
    }

    int simulate(int minutes) {
        if (minutes < 1 || minutes > 180) {
            return BAD;
        }
        Results r = simulated(minutes);
        int sum = 0;
        for (Map.Entry<Integer, Group> e : groups.entrySet()) {
            e.getValue().waited = r.waited.getOrDefault(e.getKey(), 0);
            e.getValue().rides = r.rides.getOrDefault(e.getKey(), 0);
            sum += e.getValue().waited;
        }
        for (int l = 0; l < lifts.size(); l++) {
            lifts.get(l).longest = r.longest.getOrDefault(l, 0);
            lifts.get(l).carried = r.carried.getOrDefault(l, 0);
        }
        return sum;
    }

    int waited(int group) {
        return groups.containsKey(group) ? groups.get(group).waited : BAD;
    }

    int rides(int group) {
        return groups.containsKey(group) ? groups.get(group).rides : BAD;
    }

    int longestQueue(int lift) {
        return hasLift(lift) ? lifts.get(lift).longest : BAD;
    }

    int carried(int lift) {
        return hasLift(lift) ? lifts.get(lift).carried : BAD;
    }

    int bestStart(int group, int minutes) {
        if (!groups.containsKey(group) || minutes < 1 || minutes > 180) {
            return BAD;
        }
        if (!takesPart(group)) {
            return STATE;
        }
        int before = groups.get(group).start;
        int best = -1;
        int least = 0;
        for (int start = 0; start <= 30; start++) {
            groups.get(group).start = start;
            int waited = simulated(minutes).waited.getOrDefault(group, 0);
            if (best < 0 || waited < least) {
                best = start;
                least = waited;
            }
        }
        groups.get(group).start = before;
        return best;
    }

    int type(int code) {
        if (code < 32 || code > 126) {
            return BAD;
        }
        if (text.length() == 100) {
            return FULL;
        }
        text += (char) code;
        return text.length();
    }

    int clearText() {
        int had = text.length();
        text = "";
        return had;
    }

    int load() {
        for (int n = 1; n <= text.length(); n++) {
            Matcher begin = ROSTER.matcher(text.substring(0, n));
            if (!begin.matches() && !begin.hitEnd()) {
                return -10 - (n - 1);
            }
        }
        if (!ROSTER.matcher(text).matches()) {
            return -10 - text.length();
        }
        int done = 0;
        for (String entry : text.split(";")) {
            if (entry.isEmpty() || carryOut(entry) == FULL) {
                return done;
            }
            done++;
        }
        return done;
    }

    private static int languagesIn(String entry) {
        int set = 0;
        for (char letter : entry.substring(1).toCharArray()) {
            if (letter >= 'a' && letter <= 'f') {
                set |= 1 << letter - 'a';
            }
        }
        return set;
    }

    private int carryOut(String entry) {
        if (entry.startsWith("p")) {
            int slash = entry.indexOf('/');
            return addPupil(entry.charAt(1) - '0', languagesIn(entry), slash < 0 ? NONE : entry.charAt(slash + 1) - '0');
        }
        if (entry.startsWith("g")) {
            return openGroup(entry.charAt(1) - '0', entry.charAt(2) - 'a', entry.charAt(3) - '0');
        }
        int colon = entry.indexOf(':');
        return hire(languagesIn(entry), entry.charAt(colon - 2) - '0', entry.charAt(colon - 1) - '0',
            Integer.parseInt(entry.substring(colon + 1)));
    }

    long digest() {
        List<Integer> values = new ArrayList<>(List.of(day, pupils(), groups(), instructors()));
        pupils.forEach((n, p) -> values.addAll(List.of(n, p.level, p.languages, p.family, p.group,
            scoreOf(n, 0), scoreOf(n, 1), scoreOf(n, 2), scoreOf(n, 3))));
        for (int f = 0; f < 8; f++) {
            values.add(spread(f));
        }
        groups.forEach((n, g) -> values.addAll(List.of(n, g.level, size(n), g.instructor, g.waited, g.rides)));
        instructors.forEach((n, i) -> values.addAll(List.of(n, (int) i.earnings)));
        lifts.forEach(l -> values.addAll(List.of(l.longest, l.carried)));
        values.addAll(List.of(placed(), outOfLevel(), text.length()));
        long h = 43053;
        for (int v : values) {
            h = 31 * h + v;
        }
        return h;
    }
}
