/** Promises 34 to 43: lifts, programmes and simulations. */
public final class LiftTest {
    private static final int NONE = SkiSchool.NONE, BAD = SkiSchool.BAD, STATE = SkiSchool.STATE, FULL = SkiSchool.FULL;
    private static final int[] NO_GROUPS = {-1, 2, 3, 4, NONE, Integer.MIN_VALUE, Integer.MAX_VALUE};
    private static final int[] NO_LIFTS = {-1, 1, 2, 3, NONE, Integer.MIN_VALUE, Integer.MAX_VALUE};

    public static void main(String[] args) {
        addLift();
        addStop();
        clearStops();
        setStart();
        simulateErrors();
        simulateAlone();
        simulateSeveralDepartures();
        simulateSharedSeats();
        simulateOrderOfQueue();
        simulateProgramme();
        simulateFourGroups();
        simulateFourStopsAtThreeLifts();
        simulateInstructor();
        simulateWhoTakesPart();
        simulateLateStart();
        resultsAreKept();
        resultErrors();
        bestStart();
        bestStartChangesNothing();
        bestStartErrors();
        Check.end();
    }

    private static SkiSchool with(String roster) {
        SkiSchool x = new SkiSchool();
        Check.holds("the roster " + roster + " is loaded", Check.load(x, roster) > 0);
        x.clearText();
        x.assign();
        return x;
    }

    private static void addLift() {
        SkiSchool x = new SkiSchool();
        Check.due("seats 0", x.addLift(0, 1, 1), BAD);
        Check.due("seats 9", x.addLift(9, 1, 1), BAD);
        Check.due("interval 0", x.addLift(1, 0, 1), BAD);
        Check.due("interval 11", x.addLift(1, 11, 1), BAD);
        Check.due("ride 0", x.addLift(1, 1, 0), BAD);
        Check.due("ride 21", x.addLift(1, 1, 21), BAD);
        Check.due("ride MIN", x.addLift(1, 1, Integer.MIN_VALUE), BAD);
        Check.due("addLift", x.addLift(1, 1, 1), 0);
        Check.due("longestQueue", x.longestQueue(0), 0);
        Check.due("carried", x.carried(0), 0);
        Check.due("addLift", x.addLift(8, 10, 20), 1);
        Check.due("carried", x.carried(2), BAD);
        Check.due("addLift", x.addLift(4, 5, 6), 2);
        long before = x.digest();
        Check.due("full", x.addLift(1, 1, 1), FULL);
        Check.due("BAD goes first", x.addLift(0, 1, 1), BAD);
        Check.due("digest", x.digest(), before);
    }

    private static void addStop() {
        SkiSchool x = with("g1a1;g1a1;p1a;");
        Check.due("no lift", x.addStop(0, 0, 1), BAD);
        x.addLift(1, 1, 1);
        Check.due("slope 0", x.addStop(0, 0, 0), BAD);
        Check.due("slope 21", x.addStop(0, 0, 21), BAD);
        for (int lift : NO_LIFTS) {
            Check.due("no such lift", x.addStop(0, lift, 1), BAD);
        }
        for (int group : NO_GROUPS) {
            Check.due("no such group", x.addStop(group, 0, 1), BAD);
        }
        Check.due("addStop", x.addStop(0, 0, 1), 1);
        Check.due("addStop", x.addStop(0, 0, 20), 2);
        Check.due("the other group", x.addStop(1, 0, 1), 1);
        Check.due("addStop", x.addStop(0, 0, 1), 3);
        Check.due("addStop", x.addStop(0, 0, 1), 4);
        Check.due("full", x.addStop(0, 0, 1), FULL);
        Check.due("BAD goes first", x.addStop(0, 0, 21), BAD);
        Check.due("clearStops", x.clearStops(0), 4);
    }

    private static void clearStops() {
        SkiSchool x = with("g1a1;g1a1;p1a;");
        x.addLift(1, 1, 1);
        Check.due("clearStops", x.clearStops(0), 0);
        x.addStop(0, 0, 1);
        x.addStop(0, 0, 1);
        x.addStop(1, 0, 1);
        Check.due("clearStops", x.clearStops(0), 2);
        Check.due("clearStops", x.clearStops(0), 0);
        Check.due("addStop", x.addStop(0, 0, 3), 1);
        Check.due("the other group", x.clearStops(1), 1);
        for (int group : NO_GROUPS) {
            Check.due("no such group", x.clearStops(group), BAD);
        }
    }

    private static void setStart() {
        SkiSchool x = with("g1a1;g1a1;p1a;");
        Check.due("setStart", x.setStart(0, 60), 0);
        Check.due("setStart", x.setStart(0, 7), 60);
        Check.due("61", x.setStart(0, 61), BAD);
        Check.due("-1", x.setStart(0, -1), BAD);
        Check.due("setStart", x.setStart(0, 0), 7);
        Check.due("the other group", x.setStart(1, 1), 0);
        for (int group : NO_GROUPS) {
            Check.due("no such group", x.setStart(group, 0), BAD);
        }
    }

    private static void simulateErrors() {
        SkiSchool x = with("g1a1;p1a;");
        x.addLift(1, 10, 1);
        x.addStop(0, 0, 1);
        x.setStart(0, 1);
        Check.due("simulate", x.simulate(5), 4);
        long before = x.digest();
        Check.due("0", x.simulate(0), BAD);
        Check.due("181", x.simulate(181), BAD);
        Check.due("-1", x.simulate(-1), BAD);
        Check.due("MAX", x.simulate(Integer.MAX_VALUE), BAD);
        Check.due("digest", x.digest(), before);
        Check.due("one minute", x.simulate(1), 0);
        Check.due("180 minutes", x.simulate(180), 9 + 8 * 17);
    }

    private static void results(SkiSchool x, int minutes, int... due) {
        Check.due("simulate(" + minutes + ")", x.simulate(minutes), due[0]);
        Check.due("waited(0) of " + minutes, x.waited(0), due[1]);
        Check.due("rides(0) of " + minutes, x.rides(0), due[2]);
        Check.due("longestQueue(0) of " + minutes, x.longestQueue(0), due[3]);
        Check.due("carried(0) of " + minutes, x.carried(0), due[4]);
    }

    /** One pupil; ride 3 and slope 2: it comes back every 5 minutes, and the lift departs every 4. */
    private static void simulateAlone() {
        SkiSchool x = with("g1a1;p1a;");
        x.addLift(1, 4, 3);
        x.addStop(0, 0, 2);
        results(x, 1, 0, 0, 1, 0, 1);
        results(x, 5, 0, 0, 1, 0, 1);
        results(x, 6, 1, 1, 1, 1, 1);
        results(x, 8, 3, 3, 1, 1, 1);
        results(x, 9, 3, 3, 2, 1, 2);
        results(x, 17, 6, 6, 3, 1, 3);
        x.setStart(0, 1);
        results(x, 4, 3, 3, 0, 1, 0);
        results(x, 5, 3, 3, 1, 1, 1);
        x.setStart(0, 4);
        results(x, 5, 0, 0, 1, 0, 1);
    }

    /** Five persons and two seats every 3 minutes: taken at 0, 3 and 6; back at 6 + 1 + 2. */
    private static void simulateSeveralDepartures() {
        SkiSchool x = with("g1a5;p1a;p1a;p1a;p1a;p1a;");
        x.addLift(2, 3, 1);
        x.addStop(0, 0, 2);
        results(x, 1, 3, 3, 0, 3, 2);
        results(x, 3, 9, 9, 0, 3, 2);
        results(x, 4, 10, 10, 0, 3, 4);
        results(x, 6, 12, 12, 0, 3, 4);
        results(x, 7, 12, 12, 1, 3, 5);
        results(x, 9, 12, 12, 1, 3, 5);
        results(x, 10, 15, 15, 1, 3, 7);
    }

    /** Group 0 has two persons and group 1 has three; the seats that are left go to the next group. */
    private static void simulateSharedSeats() {
        SkiSchool x = with("g1a2;g5a3;p1a;p1a;p5a;p5a;p5a;");
        x.addLift(4, 2, 10);
        x.addStop(0, 0, 10);
        x.addStop(1, 0, 10);
        results(x, 2, 2, 0, 1, 1, 4);
        Check.due("waited(1)", x.waited(1), 2);
        Check.due("rides(1)", x.rides(1), 0);
        results(x, 3, 2, 0, 1, 1, 5);
        Check.due("waited(1)", x.waited(1), 2);
        Check.due("rides(1)", x.rides(1), 1);
        results(x, 23, 2, 0, 2, 1, 10);
        Check.due("rides(1)", x.rides(1), 2);
        Check.due("waited(1)", x.waited(1), 2);
    }

    /** The group that came first stays in front; of those that come together the smaller number does. */
    private static void simulateOrderOfQueue() {
        SkiSchool x = with("g1a2;g5a2;p1a;p1a;p5a;p5a;");
        x.addLift(2, 5, 10);
        x.addStop(0, 0, 20);
        x.addStop(1, 0, 20);
        x.setStart(0, 2);
        x.setStart(1, 1);
        Check.due("simulate", x.simulate(12), 16 + 8);
        Check.due("the later one", x.waited(0), 16);
        Check.due("the earlier one", x.waited(1), 8);
        Check.due("longestQueue", x.longestQueue(0), 4);
        x.setStart(0, 1);
        Check.due("simulate", x.simulate(12), 8 + 18);
        Check.due("the smaller number", x.waited(0), 8);
        Check.due("the greater number", x.waited(1), 18);
    }

    /** Two lifts and three stops, then the first one again. */
    private static void simulateProgramme() {
        SkiSchool x = with("g1a1;p1a;");
        x.addLift(1, 1, 2);
        x.addLift(1, 10, 3);
        x.addStop(0, 0, 1);
        x.addStop(0, 1, 4);
        x.addStop(0, 0, 5);
        results(x, 3, 0, 0, 1, 0, 1);
        Check.due("carried(1)", x.carried(1), 0);
        results(x, 11, 7, 7, 2, 0, 1);
        Check.due("carried(1)", x.carried(1), 1);
        Check.due("longestQueue(1)", x.longestQueue(1), 1);
        results(x, 18, 7, 7, 3, 0, 2);
        results(x, 25, 7, 7, 4, 0, 3);
        results(x, 28, 8, 8, 4, 0, 3);
        results(x, 31, 10, 10, 5, 0, 3);
        Check.due("carried(1)", x.carried(1), 2);
        x.clearStops(0);
        x.addStop(0, 1, 4);
        results(x, 11, 3, 3, 2, 0, 0);
        Check.due("carried(1)", x.carried(1), 2);
    }

    /** All groups wait in one queue, and one departure takes them all. */
    private static void simulateFourGroups() {
        SkiSchool x = with("g0a1;g2a1;g4a1;g6a1;p0a;p2a;p4a;p6a;");
        x.addLift(4, 10, 1);
        for (int g = 0; g < 4; g++) {
            x.addStop(g, 0, 20);
            x.setStart(g, 4 - g);
        }
        Check.due("simulate", x.simulate(10), 6 + 7 + 8 + 9);
        Check.due("longestQueue", x.longestQueue(0), 4);
        Check.due("carried", x.carried(0), 0);
        Check.due("simulate", x.simulate(11), 6 + 7 + 8 + 9);
        Check.due("carried", x.carried(0), 4);
        for (int g = 0; g < 4; g++) {
            Check.due("rides", x.rides(g), 1);
            Check.due("waited", x.waited(g), 6 + g);
        }
    }

    private static void simulateFourStopsAtThreeLifts() {
        SkiSchool x = with("g1a1;p1a;");
        x.addLift(1, 1, 1);
        x.addLift(1, 1, 2);
        x.addLift(1, 1, 3);
        x.addStop(0, 2, 1);
        x.addStop(0, 1, 2);
        x.addStop(0, 0, 3);
        x.addStop(0, 2, 7);
        int[] departures = {0, 4, 8, 12, 22, 26};
        int[] lifts = {2, 1, 0, 2, 2, 1};
        int[] carried = new int[3];
        for (int n = 0; n < departures.length; n++) {
            Check.due("before the departure", x.simulate(Math.max(1, departures[n])), 0);
            Check.due("rides", x.rides(0), Math.max(1, n));
            carried[lifts[n]]++;
            x.simulate(departures[n] + 1);
            Check.due("rides", x.rides(0), n + 1);
            for (int l = 0; l < 3; l++) {
                Check.due("carried", x.carried(l), carried[l]);
                Check.due("longestQueue", x.longestQueue(l), 0);
            }
        }
    }

    private static void simulateInstructor() {
        SkiSchool x = with("g1a1;p1a;ia07:1;");
        x.addLift(1, 10, 1);
        x.addStop(0, 0, 1);
        results(x, 10, 8, 8, 1, 1, 1);
        x.staff();
        results(x, 10, 10, 10, 0, 1, 1);
        results(x, 11, 10, 10, 1, 1, 2);
        x.dismiss(0);
        results(x, 10, 8, 8, 1, 1, 1);
    }

    /** Only active groups with a stop: the others count for nothing. */
    private static void simulateWhoTakesPart() {
        SkiSchool x = with("g1a2;g5a2;p1a;p1a;p5a;p5a;ia07:1;ia07:1;");
        x.staff();
        x.addLift(1, 10, 10);
        x.addStop(0, 0, 1);
        Check.due("group 1 has no stop", x.simulate(10), 20);
        Check.due("waited(1)", x.waited(1), 0);
        Check.due("carried", x.carried(0), 1);
        x.addStop(1, 0, 1);
        Check.due("both", x.simulate(10), 20 + 30);
        Check.due("waited(1)", x.waited(1), 30);
        Check.due("rides(1)", x.rides(1), 0);
        x.removePupil(2);
        x.removePupil(3);
        Check.due("kept", x.waited(1), 30);
        Check.due("group 1 is not active", x.simulate(10), 20);
        Check.due("waited(1)", x.waited(1), 0);
        x.removePupil(0);
        x.removePupil(1);
        Check.due("nobody", x.simulate(180), 0);
        Check.due("longestQueue", x.longestQueue(0), 0);
        Check.due("carried", x.carried(0), 0);
        Check.due("waited(0)", x.waited(0), 0);
        Check.due("rides(0)", x.rides(0), 0);
    }

    private static void simulateLateStart() {
        SkiSchool x = with("g1a1;p1a;");
        x.addLift(1, 10, 1);
        x.addStop(0, 0, 1);
        x.setStart(0, 55);
        results(x, 55, 0, 0, 0, 0, 0);
        results(x, 56, 1, 1, 0, 1, 0);
        results(x, 61, 5, 5, 1, 1, 1);
        x.setStart(0, 60);
        results(x, 60, 0, 0, 0, 0, 0);
        results(x, 61, 0, 0, 1, 0, 1);
    }

    private static void resultsAreKept() {
        SkiSchool x = with("g1a2;p1a;p1a;");
        Check.due("waited", x.waited(0), 0);
        Check.due("rides", x.rides(0), 0);
        x.addLift(1, 3, 2);
        x.addStop(0, 0, 2);
        results(x, 20, 16, 16, 2, 2, 5);
        x.addLift(1, 1, 1);
        x.clearStops(0);
        x.setStart(0, 9);
        x.assign();
        x.nextDay();
        x.openGroup(1, 0, 1);
        Check.due("waited", x.waited(0), 16);
        Check.due("rides", x.rides(0), 2);
        Check.due("longestQueue", x.longestQueue(0), 2);
        Check.due("carried", x.carried(0), 5);
        Check.due("the new group", x.waited(1), 0);
        Check.due("the new lift", x.carried(1), 0);
        Check.due("the next simulation", x.simulate(20), 0);
        Check.due("waited", x.waited(0), 0);
        Check.due("rides", x.rides(0), 0);
        Check.due("longestQueue", x.longestQueue(0), 0);
        Check.due("carried", x.carried(0), 0);
    }

    private static void resultErrors() {
        SkiSchool x = with("g1a2;g1a2;p1a;p1a;");
        x.addLift(1, 3, 2);
        for (int group : NO_GROUPS) {
            Check.due("waited", x.waited(group), BAD);
            Check.due("rides", x.rides(group), BAD);
        }
        for (int lift : NO_LIFTS) {
            Check.due("longestQueue", x.longestQueue(lift), BAD);
            Check.due("carried", x.carried(lift), BAD);
        }
    }

    private static void bestStart() {
        SkiSchool x = with("g1a1;g5a1;p1a;p5a;");
        x.addLift(1, 7, 20);
        x.addStop(0, 0, 8);
        Check.due("of several the smallest", x.bestStart(0, 180), 0);
        x.clearStops(0);
        x.addStop(0, 0, 9);
        Check.due("after the last departure", x.bestStart(0, 29), 0);
        Check.due("back at 29", x.bestStart(0, 30), 7);
        x.clearStops(0);
        x.addStop(0, 0, 8);
        x.addStop(1, 0, 8);
        Check.due("the other group has the first seat", x.bestStart(1, 28), 7);
        Check.due("the first seat is its own", x.bestStart(0, 28), 0);
        x.setStart(0, 7);
        Check.due("the other group keeps its start", x.bestStart(1, 28), 0);
        Check.due("only its own waiting counts", x.bestStart(0, 28), 0);
        Check.due("0 is taken", x.setStart(1, 0), 0);
        Check.due("never at all", x.bestStart(1, 1), 0);
        lateBestStart();
    }

    /** With four persons and one seat in each minute, only a start after the end has no waiting. */
    private static void lateBestStart() {
        SkiSchool x = with("g1a4;p1a;p1a;p1a;p1a;");
        x.addLift(1, 1, 20);
        x.addStop(0, 0, 20);
        Check.due("bestStart", x.bestStart(0, 30), 30);
        Check.due("bestStart", x.bestStart(0, 29), 29);
        Check.due("it waits in the last minute", x.bestStart(0, 31), 30);
        Check.due("it waits the least in the end", x.bestStart(0, 32), 30);
        Check.due("all the same", x.bestStart(0, 40), 0);
        Check.due("a second round is later", x.bestStart(0, 47), 4);
    }

    private static void bestStartChangesNothing() {
        SkiSchool x = with("g1a2;g5a2;p1a;p1a;p5a;");
        x.addLift(1, 3, 2);
        x.addStop(0, 0, 2);
        x.addStop(1, 0, 2);
        x.setStart(0, 5);
        x.simulate(40);
        long before = x.digest();
        Check.holds("bestStart", x.bestStart(0, 100) >= 0);
        Check.holds("bestStart", x.bestStart(1, 7) >= 0);
        Check.due("digest", x.digest(), before);
        Check.due("the start minute stays", x.setStart(0, 5), 5);
        x.simulate(40);
        Check.due("digest", x.digest(), before);
    }

    private static void bestStartErrors() {
        SkiSchool x = with("g1a2;g5a2;p1a;");
        x.addLift(1, 3, 2);
        Check.due("no stop", x.bestStart(0, 10), STATE);
        x.addStop(0, 0, 1);
        x.addStop(1, 0, 1);
        Check.due("bestStart", x.bestStart(0, 180), 0);
        Check.due("not active", x.bestStart(1, 10), STATE);
        Check.due("BAD goes first", x.bestStart(1, 0), BAD);
        Check.due("0", x.bestStart(0, 0), BAD);
        Check.due("181", x.bestStart(0, 181), BAD);
        Check.due("-1", x.bestStart(0, -1), BAD);
        for (int group : NO_GROUPS) {
            Check.due("no such group", x.bestStart(group, 10), BAD);
        }
    }
}
