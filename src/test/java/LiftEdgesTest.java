import java.util.function.Supplier;

/** The boundary cases of promises 34 to 43, and of "Lifts". */
public final class LiftEdgesTest {
    private static final int BAD = SkiSchool.BAD, STATE = SkiSchool.STATE, FULL = SkiSchool.FULL;

    public static void main(String[] args) {
        Edges.run(LiftEdgesTest.class);
    }

    /** A school with one lift, at which each group has one stop with this slope time. */
    private static SkiSchool atLift(String roster, int seats, int interval, int ride, int slope) {
        SkiSchool x = Schools.assigned(roster);
        x.addLift(seats, interval, ride);
        for (int g = 0; g < x.groups(); g++) {
            x.addStop(g, 0, slope);
        }
        return x;
    }

    private static void starts(SkiSchool x, int... minutes) {
        for (int g = 0; g < minutes.length; g++) {
            x.setStart(g, minutes[g]);
        }
    }

    private static int[] each(int... values) {
        return values;
    }

    /** Simulates, and looks at the results of the groups 0, 1 and so on, and of lift 0. */
    private static void run(String what, SkiSchool x, int minutes, int[] waited, int[] rides, int longest, int carried) {
        String name = what + ": simulate(" + minutes + ")";
        int sum = 0;
        for (int each : waited) {
            sum += each;
        }
        Check.due(name, x.simulate(minutes), sum);
        for (int g = 0; g < waited.length; g++) {
            Check.due(name + ", waited(" + g + ")", x.waited(g), waited[g]);
            Check.due(name + ", rides(" + g + ")", x.rides(g), rides[g]);
        }
        Check.due(name + ", longestQueue(0)", x.longestQueue(0), longest);
        Check.due(name + ", carried(0)", x.carried(0), carried);
    }

    // ---- Terms

    @Edge(promise = 0, says = "The school uses at most 3 lifts (initially none), numbered from 0 in the order in which they are added.")
    static void atMost3Lifts() {
        SkiSchool x = new SkiSchool();
        for (int n = 0; n < 3; n++) {
            Check.due("before", x.carried(n), BAD);
            Check.due("addLift", x.addLift(1, 1, 1), n);
            Check.due("after", x.carried(n), 0);
        }
        Check.due("the fourth", x.addLift(1, 1, 1), FULL);
        Check.due("carried(3)", x.carried(3), BAD);
    }

    @Edge(promise = 0, says = "A lift has a number of seats (1 to 8)")
    static void oneSeatAndEightSeats() {
        String eight = "g3a6;g5a2;" + "p3a;".repeat(6) + "p5a;p5a;";
        run("1 seat", atLift(eight, 1, 10, 20, 20), 1, each(5, 2), each(0, 0), 7, 1);
        run("7 seats", atLift(eight, 7, 10, 20, 20), 1, each(0, 1), each(1, 0), 1, 7);
        run("8 seats", atLift(eight, 8, 10, 20, 20), 1, each(0, 0), each(1, 1), 0, 8);
        run("8 seats for 9", atLift("g3a6;g5a3;" + "p3a;".repeat(6) + "p5a;p5a;p5a;", 8, 10, 20, 20), 1, each(0, 1), each(1, 0), 1, 8);
        run("8 seats for 1", atLift("g3a6;p3a;", 8, 10, 20, 20), 1, each(0), each(1), 0, 1);
    }

    @Edge(promise = 0, says = "an interval (1 to 10 minutes)")
    static void intervalsOf1And7And10() {
        SkiSchool one = atLift("g3a1;p3a;", 1, 1, 20, 20);
        starts(one, 7);
        run("interval 1", one, 8, each(0), each(1), 0, 1);
        SkiSchool seven = atLift("g3a1;p3a;", 1, 7, 20, 20);
        starts(seven, 8);
        run("interval 7 before 14", seven, 14, each(6), each(0), 1, 0);
        run("interval 7 at 14", seven, 15, each(6), each(1), 1, 1);
        SkiSchool ten = atLift("g3a1;p3a;", 1, 10, 20, 20);
        starts(ten, 11);
        run("interval 10 before 20", ten, 20, each(9), each(0), 1, 0);
        run("interval 10 at 20", ten, 21, each(9), each(1), 1, 1);
    }

    @Edge(promise = 0, says = "a ride time (1 to 20 minutes)")
    static void ridesOf1And20() {
        SkiSchool one = atLift("g3a1;p3a;", 1, 1, 1, 1);
        run("back at 2", one, 2, each(0), each(1), 0, 1);
        run("back at 2", one, 3, each(0), each(2), 0, 2);
        SkiSchool twenty = atLift("g3a1;p3a;", 1, 1, 20, 1);
        run("back at 21", twenty, 21, each(0), each(1), 0, 1);
        run("back at 21", twenty, 22, each(0), each(2), 0, 2);
    }

    @Edge(promise = 0, says = "a stop is a lift and a slope time (1 to 20 minutes)")
    static void slopesOf1And20() {
        SkiSchool twenty = atLift("g3a1;p3a;", 1, 1, 1, 20);
        run("back at 21", twenty, 21, each(0), each(1), 0, 1);
        run("back at 21", twenty, 22, each(0), each(2), 0, 2);
        SkiSchool forty = atLift("g3a1;p3a;", 1, 1, 20, 20);
        run("back at 40", forty, 40, each(0), each(1), 0, 1);
        run("back at 40", forty, 41, each(0), each(2), 0, 2);
    }

    @Edge(promise = 0, says = "The programme of a group consists of at most 4 stops")
    static void fourStopsAndTheFifth() {
        SkiSchool x = Schools.of("g3a1;g3a1;");
        x.addLift(1, 1, 1);
        for (int n = 1; n <= 4; n++) {
            Check.due("addStop", x.addStop(0, 0, n), n);
        }
        Check.due("the fifth", x.addStop(0, 0, 5), FULL);
        Check.due("of another group", x.addStop(1, 0, 5), 1);
    }

    @Edge(promise = 0, says = "A simulation of M minutes goes through the minutes 0 to M - 1.")
    static void theFirstAndTheLastMinute() {
        SkiSchool x = atLift("g3a2;p3a;p3a;", 1, 10, 20, 20);
        run("minute 0 alone", x, 1, each(1), each(0), 1, 1);
        starts(x, 9);
        run("one short of minute 9", x, 9, each(0), each(0), 0, 0);
        run("minute 9 is the last", x, 10, each(2), each(0), 2, 0);
        run("minute 10 is the last", x, 11, each(3), each(0), 2, 1);
    }

    @Edge(promise = 0, says = "A simulation of M minutes goes through the minutes 0 to M - 1.")
    static void theLongestSimulation() {
        SkiSchool x = atLift("g3a1;p3a;", 1, 1, 1, 1);
        run("rides at 0, 2 and so on to 176", x, 178, each(0), each(89), 0, 89);
        run("to 178", x, 179, each(0), each(90), 0, 90);
        run("to 178", x, 180, each(0), each(90), 0, 90);
    }

    @Edge(promise = 0, says = "The active groups with at least one stop take part.")
    static void groupsThatDoNotTakePart() {
        SkiSchool x = atLift("g3a1;g5a1;g7a1;p3a;p5a;ia07:1;ia07:1;", 1, 10, 20, 20);
        x.staff();
        starts(x, 1, 1, 1);
        run("two groups of two", x, 10, each(18, 18, 0), each(0, 0, 0), 4, 0);
        x.clearStops(1);
        run("without a stop", x, 10, each(18, 0, 0), each(0, 0, 0), 2, 0);
        x.removePupil(0);
        Check.due("its instructor is still there", x.instructor(0), 0);
        run("without a pupil", x, 10, each(0, 0, 0), each(0, 0, 0), 0, 0);
        x.addStop(1, 0, 1);
        run("one stop and one pupil", x, 10, each(0, 18, 0), each(0, 0, 0), 2, 0);
    }

    @Edge(promise = 0, says = "The persons of a group are its pupils, and its instructor if it has one.")
    static void sixPupilsWithAndWithoutAnInstructor() {
        SkiSchool x = atLift("g3a6;" + "p3a;".repeat(6) + "ia07:1;", 8, 1, 20, 20);
        run("six", x, 1, each(0), each(1), 0, 6);
        x.staff();
        run("seven", x, 1, each(0), each(1), 0, 7);
        x.dismiss(0);
        run("six again", x, 1, each(0), each(1), 0, 6);
    }

    @Edge(promise = 0, says = "The persons of a group are its pupils, and its instructor if it has one.")
    static void instructor0AndInstructor7ArePersons() {
        SkiSchool x = atLift("g3a1;p3a;ia07:1;", 8, 1, 20, 20);
        x.staff();
        Check.due("instructor", x.instructor(0), 0);
        run("number 0", x, 1, each(0), each(1), 0, 2);
        SkiSchool y = atLift("g3a1;p3a;" + "ib07:1;".repeat(7) + "ia07:1;", 8, 1, 20, 20);
        y.staff();
        Check.due("instructor", y.instructor(0), 7);
        run("number 7", y, 1, each(0), each(1), 0, 2);
    }

    @Edge(promise = 0, says = "At first all queues are empty, the current stop of each group is its first one")
    static void eachSimulationBeginsAnew() {
        SkiSchool x = atLift("g3a2;p3a;p3a;", 1, 10, 1, 1);
        x.addLift(8, 1, 1);
        x.addStop(0, 1, 20);
        run("one is left in the queue", x, 5, each(5), each(0), 1, 1);
        run("the same again", x, 5, each(5), each(0), 1, 1);
        run("on the way to the second stop", x, 12, each(10), each(1), 1, 2);
        run("the same as at first", x, 5, each(5), each(0), 1, 1);
    }

    @Edge(promise = 0, says = "Each group whose arrival minute is this minute, by ascending numbers, joins the end of the queue")
    static void twoGroupsInTheSameMinute() {
        SkiSchool x = atLift("g1a1;g3a1;g5a1;g7a1;p1a;p7a;", 1, 10, 1, 20);
        starts(x, 1, 1, 1, 1);
        run("group 0 is taken", x, 11, each(9, 0, 0, 10), each(1, 0, 0, 0), 2, 1);
        run("group 3 is taken", x, 21, each(9, 0, 0, 19), each(1, 0, 0, 1), 2, 2);
    }

    @Edge(promise = 0, says = "joins the end of the queue of the lift")
    static void theEarlierOneIsAhead() {
        SkiSchool x = atLift("g1a1;g3a1;g5a1;g7a1;p1a;p7a;", 1, 10, 1, 20);
        starts(x, 2, 1, 1, 1);
        run("group 3 is taken", x, 11, each(9, 0, 0, 9), each(0, 0, 0, 1), 2, 1);
        run("group 0 is taken", x, 21, each(18, 0, 0, 9), each(1, 0, 0, 1), 2, 2);
    }

    @Edge(promise = 0, says = "joins the end of the queue of the lift")
    static void whoComesBackIsBehindWhoWaits() {
        SkiSchool x = atLift("g3a1;g5a1;p3a;p5a;", 1, 10, 1, 1);
        starts(x, 0, 1);
        run("group 0 is back at 2", x, 11, each(9, 9), each(1, 1), 2, 2);
        run("group 1 is back at 12", x, 21, each(18, 18), each(2, 1), 2, 3);
    }

    @Edge(promise = 0, says = "by ascending numbers, joins the end of the queue")
    static void whoComesBackInTheMinuteInWhichAnotherStarts() {
        SkiSchool x = atLift("g3a1;g5a1;p3a;p5a;", 1, 10, 1, 1);
        starts(x, 2, 0);
        run("both come at 2", x, 11, each(8, 9), each(1, 1), 2, 2);
    }

    @Edge(promise = 0, says = "departs if the minute is a multiple of its interval (0 is a multiple)")
    static void departuresAt0And10() {
        SkiSchool x = atLift("g3a1;p3a;", 1, 10, 20, 20);
        run("at 0", x, 1, each(0), each(1), 0, 1);
        starts(x, 1);
        run("not at 9", x, 10, each(9), each(0), 1, 0);
        run("at 10", x, 11, each(9), each(1), 1, 1);
    }

    @Edge(promise = 0, says = "In each minute, the following steps are done in this order")
    static void whoComesInTheMinuteOfTheDeparture() {
        SkiSchool x = atLift("g3a1;p3a;", 1, 10, 20, 20);
        starts(x, 10);
        run("taken at once", x, 11, each(0), each(1), 0, 1);
        starts(x, 9);
        run("a minute before", x, 11, each(1), each(1), 1, 1);
    }

    @Edge(promise = 0, says = "It takes persons from its queue until all seats are taken or nobody waits there any more")
    static void anEmptyQueue() {
        SkiSchool x = atLift("g3a1;", 8, 1, 1, 1);
        run("no pupils", x, 180, each(0), each(0), 0, 0);
        SkiSchool y = atLift("g3a1;p3a;", 8, 1, 1, 1);
        y.addLift(8, 1, 1);
        y.simulate(180);
        Check.due("a lift without a stop", y.carried(1), 0);
        Check.due("a lift without a stop", y.longestQueue(1), 0);
    }

    @Edge(promise = 0, says = "a group can be taken by several departures")
    static void sixDeparturesForSixPersons() {
        SkiSchool x = atLift("g3a6;" + "p3a;".repeat(6), 1, 1, 1, 1);
        run("five", x, 5, each(15), each(0), 5, 5);
        run("the sixth", x, 6, each(15), each(1), 5, 6);
        run("on the slope", x, 7, each(15), each(1), 5, 6);
        run("back at 5 + 1 + 1", x, 8, each(20), each(1), 5, 7);
    }

    @Edge(promise = 0, says = "persons of the group at the front are taken first")
    static void theSeatsThatAreLeftGoToTheNextGroup() {
        SkiSchool x = atLift("g3a3;g5a2;p3a;p3a;p3a;p5a;p5a;", 2, 1, 20, 20);
        run("two of the first", x, 1, each(1, 2), each(0, 0), 3, 2);
        run("one of each", x, 2, each(1, 3), each(1, 0), 3, 4);
        run("the last of the second", x, 3, each(1, 3), each(1, 1), 3, 5);
    }

    @Edge(promise = 0, says = "until all seats are taken or nobody waits there any more")
    static void fourGroupsInOneDeparture() {
        String roster = "g1a1;g3a1;g5a1;g7a1;p1a;p3a;p5a;p7a;";
        run("4 seats", atLift(roster, 4, 10, 20, 20), 1, each(0, 0, 0, 0), each(1, 1, 1, 1), 0, 4);
        run("3 seats", atLift(roster, 3, 10, 20, 20), 1, each(0, 0, 0, 1), each(1, 1, 1, 0), 1, 3);
        run("5 seats", atLift(roster, 5, 10, 20, 20), 1, each(0, 0, 0, 0), each(1, 1, 1, 1), 0, 4);
    }

    @Edge(promise = 0, says = "its current stop becomes the next stop of its programme, or the first one after the last one")
    static void fourStopsAndTheFirstOneAgain() {
        SkiSchool x = Schools.assigned("g3a1;p3a;");
        int[] lifts = {0, 1, 2, 0};
        for (int n = 0; n < 3; n++) {
            x.addLift(1, 1, 1);
        }
        for (int lift : lifts) {
            x.addStop(0, lift, 1);
        }
        int[] carried = new int[3];
        for (int n = 0; n < 10; n++) {
            carried[lifts[n % 4]]++;
            x.simulate(2 * n + 1);
            Check.due("rides", x.rides(0), n + 1);
            for (int lift = 0; lift < 3; lift++) {
                Check.due("carried(" + lift + ") after " + n + " rides", x.carried(lift), carried[lift]);
            }
        }
    }

    @Edge(promise = 0, says = "or the first one after the last one")
    static void oneStopAgainAndAgain() {
        SkiSchool x = atLift("g3a1;p3a;", 1, 1, 2, 3);
        for (int n = 0; n < 36; n++) {
            run("at " + 5 * n, x, 5 * n + 1, each(0), each(n + 1), 0, n + 1);
        }
    }

    @Edge(promise = 0, says = "plus the ride time of this lift plus the slope time of the stop at which it waited")
    static void theTimesAreThoseOfTheStopThatIsLeft() {
        SkiSchool x = Schools.assigned("g3a1;p3a;");
        x.addLift(1, 1, 1);
        x.addLift(1, 1, 10);
        x.addStop(0, 0, 5);
        x.addStop(0, 1, 2);
        int[] arrivals = {0, 6, 18, 24, 36};
        for (int n = 1; n < arrivals.length; n++) {
            x.simulate(arrivals[n]);
            Check.due("rides before " + arrivals[n], x.rides(0), n);
            x.simulate(arrivals[n] + 1);
            Check.due("rides at " + arrivals[n], x.rides(0), n + 1);
        }
    }

    @Edge(promise = 0, says = "Each person who still waits in a queue has waited one minute more.")
    static void allWhoCanWait() {
        String roster = "g3a6;g3a6;g3a6;g3a6;" + "p3a;".repeat(20) + "ia07:1;".repeat(4);
        SkiSchool x = atLift(roster, 1, 10, 20, 20);
        x.staff();
        starts(x, 1, 1, 1, 1);
        run("24 persons for 9 minutes", x, 10, each(63, 63, 63, 27), each(0, 0, 0, 0), 24, 0);
        run("one is taken", x, 11, each(69, 70, 70, 30), each(0, 0, 0, 0), 24, 1);
    }

    @Edge(promise = 0, says = "The length of a queue is the number of persons who still wait in it.")
    static void thePersonsWhoAreTakenDoNotCount() {
        String roster = "g3a6;" + "p3a;".repeat(6);
        run("5 of 6", atLift(roster, 5, 10, 20, 20), 1, each(1), each(0), 1, 5);
        run("6 of 6", atLift(roster, 6, 10, 20, 20), 1, each(0), each(1), 0, 6);
    }

    @Edge(promise = 0, says = "a simulation sets the results of group numbers that do not take part to 0")
    static void theResultsOfAGroupThatTakesPartNoMore() {
        SkiSchool x = atLift("g3a2;g5a2;p3a;p3a;p5a;p5a;", 1, 2, 1, 1);
        x.simulate(60);
        Check.holds("both have results", x.waited(0) > 0 && x.rides(0) > 0 && x.waited(1) > 0 && x.rides(1) > 0);
        x.clearStops(0);
        x.simulate(1);
        Check.due("waited(0)", x.waited(0), 0);
        Check.due("rides(0)", x.rides(0), 0);
        x.clearStops(1);
        run("nobody takes part", x, 180, each(0, 0), each(0, 0), 0, 0);
    }

    @Edge(promise = 0, says = "All of them are 0 at first")
    static void theResultsOfWhatIsNewAfterASimulation() {
        SkiSchool x = new SkiSchool();
        x.simulate(180);
        Schools.add(x, "g3a2;p3a;p3a;");
        x.addLift(1, 10, 20);
        x.assign();
        x.addStop(0, 0, 1);
        Check.due("the first lift", x.longestQueue(0), 0);
        Check.due("the first lift", x.carried(0), 0);
        Check.due("the first group", x.waited(0), 0);
        Check.due("the first group", x.rides(0), 0);
        x.simulate(180);
        Schools.add(x, "g3a2;");
        x.addLift(1, 10, 20);
        x.addLift(1, 10, 20);
        for (int lift = 1; lift < 3; lift++) {
            Check.due("longestQueue(" + lift + ")", x.longestQueue(lift), 0);
            Check.due("carried(" + lift + ")", x.carried(lift), 0);
        }
        Check.due("the second group", x.waited(1), 0);
        Check.due("the second group", x.rides(1), 0);
    }

    @Edge(promise = 0, says = "The results of the latest simulation are kept")
    static void theResultsStayUntilTheNextSimulation() {
        SkiSchool x = atLift("g3a2;p3a;p3a;", 1, 10, 20, 20);
        run("two", x, 5, each(5), each(0), 1, 1);
        x.setStart(0, 60);
        x.clearStops(0);
        x.removePupil(0);
        x.removePupil(1);
        x.nextDay();
        x.assign();
        x.staff();
        Check.due("waited", x.waited(0), 5);
        Check.due("longestQueue", x.longestQueue(0), 1);
        Check.due("carried", x.carried(0), 1);
    }

    // ---- Promise 34: addLift

    @Edge(promise = 34, says = "`seats`: 1 to 8")
    static void addLiftSeats() {
        Twins.range("addLift(seats)", Schools::busy, (x, seats) -> x.addLift(seats, 1, 1), 1, 8, seats -> 2);
    }

    @Edge(promise = 34, says = "`interval`: 1 to 10 minutes")
    static void addLiftIntervals() {
        Twins.range("addLift(interval)", Schools::busy, (x, interval) -> x.addLift(1, interval, 1), 1, 10, interval -> 2);
    }

    @Edge(promise = 34, says = "`ride`: the ride time, 1 to 20 minutes")
    static void addLiftRides() {
        Twins.range("addLift(ride)", Schools::busy, (x, ride) -> x.addLift(1, 1, ride), 1, 20, ride -> 2);
    }

    @Edge(promise = 34, says = "BAD if an argument is out of range")
    static void addLiftWithSeveralArgumentsOutOfRange() {
        Twins.noTrace("seats and interval", Schools::busy, x -> x.addLift(0, 11, 1), BAD);
        Twins.noTrace("interval and ride", Schools::busy, x -> x.addLift(1, 0, 21), BAD);
        Twins.noTrace("seats and ride", Schools::busy, x -> x.addLift(9, 1, 0), BAD);
    }

    @Edge(promise = 34, says = "FULL if there are 3 lifts")
    static void addLiftTo2AndTo3() {
        SkiSchool x = Schools.busy();
        Check.due("to 2", x.addLift(1, 1, 1), 2);
        Check.due("to 3", x.addLift(1, 1, 1), FULL);
        Twins.noTrace("to 3", Schools::full, y -> y.addLift(8, 10, 20), FULL);
    }

    @Edge(promise = 34, says = "BAD if an argument is out of range; FULL if there are 3 lifts")
    static void addLiftIsBadBeforeFull() {
        Twins.noTrace("seats", Schools::full, x -> x.addLift(9, 1, 1), BAD);
        Twins.noTrace("interval", Schools::full, x -> x.addLift(1, 0, 1), BAD);
        Twins.noTrace("ride", Schools::full, x -> x.addLift(1, 1, 21), BAD);
    }

    // ---- Promise 35: addStop

    @Edge(promise = 35, says = "BAD if there is no such group or lift")
    static void addStopGroups() {
        int[] due = {3, 2, 1};
        Twins.numbers("addStop(group)", Schools::busy, (x, group) -> x.addStop(group, 0, 1), 3, n -> due[n]);
        Twins.numbers("addStop without a group", () -> {
            SkiSchool x = new SkiSchool();
            x.addLift(1, 1, 1);
            return x;
        }, (x, group) -> x.addStop(group, 0, 1), 0, n -> 0);
        SkiSchool x = Schools.busy();
        x.closeGroup(1);
        Check.due("a closed group", x.addStop(1, 0, 1), BAD);
    }

    @Edge(promise = 35, says = "BAD if there is no such group or lift")
    static void addStopLifts() {
        Twins.numbers("addStop(lift)", Schools::busy, (x, lift) -> x.addStop(1, lift, 1), 2, n -> 2);
        Twins.numbers("addStop without a lift", () -> Schools.of("g3a1;"), (x, lift) -> x.addStop(0, lift, 1), 0, n -> 0);
        Twins.noTrace("addStop in an empty school", SkiSchool::new, x -> x.addStop(0, 0, 1), BAD);
    }

    @Edge(promise = 35, says = "`slope`: the slope time, 1 to 20 minutes")
    static void addStopSlopes() {
        Twins.range("addStop(slope)", Schools::busy, (x, slope) -> x.addStop(2, 0, slope), 1, 20, slope -> 1);
    }

    @Edge(promise = 35, says = "FULL if the programme has 4 stops")
    static void addStopTo3AndTo4() {
        SkiSchool x = Schools.busy();
        Check.due("to 2", x.addStop(0, 1, 20), 3);
        Check.due("to 3", x.addStop(0, 1, 20), 4);
        Check.due("to 4", x.addStop(0, 1, 20), FULL);
        Check.due("another group", x.addStop(1, 1, 20), 2);
        Twins.noTrace("to 4", Schools::full, y -> y.addStop(0, 0, 1), FULL);
        Twins.noTrace("to 4", Schools::full, y -> y.addStop(3, 2, 20), FULL);
    }

    @Edge(promise = 35, says = "or slope is out of range; FULL if the programme has 4 stops")
    static void addStopIsBadBeforeFull() {
        Twins.noTrace("group", Schools::full, x -> x.addStop(4, 0, 1), BAD);
        Twins.noTrace("lift", Schools::full, x -> x.addStop(0, 3, 1), BAD);
        Twins.noTrace("slope 0", Schools::full, x -> x.addStop(0, 0, 0), BAD);
        Twins.noTrace("slope 21", Schools::full, x -> x.addStop(0, 0, 21), BAD);
    }

    // ---- Promise 36: clearStops

    @Edge(promise = 36, says = "BAD if there is no such group")
    static void clearStopsNumbers() {
        int[] due = {2, 1, 0};
        Twins.numbers("clearStops", Schools::busy, SkiSchool::clearStops, 3, n -> due[n]);
        Twins.numbers("clearStops", Schools::full, SkiSchool::clearStops, 4, n -> 4);
        Twins.numbers("clearStops of none", SkiSchool::new, SkiSchool::clearStops, 0, n -> 0);
    }

    @Edge(promise = 36, says = "Returns how many stops it had")
    static void clearStopsOfAnEmptyProgramme() {
        Twins.noTrace("clearStops", () -> Schools.assigned("g3a1;p3a;"), x -> x.clearStops(0), 0);
        SkiSchool x = Schools.full();
        Check.due("four", x.clearStops(2), 4);
        Check.due("none any more", x.clearStops(2), 0);
        Check.due("of another group", x.clearStops(3), 4);
    }

    @Edge(promise = 36, says = "Empties the programme of a group.")
    static void anEmptiedProgrammeHasRoomForFour() {
        SkiSchool x = Schools.full();
        x.clearStops(0);
        for (int n = 1; n <= 4; n++) {
            Check.due("addStop", x.addStop(0, 0, 1), n);
        }
        Check.due("the fifth", x.addStop(0, 0, 1), FULL);
    }

    // ---- Promise 37: setStart

    @Edge(promise = 37, says = "BAD if there is no such group")
    static void setStartNumbers() {
        int[] due = {2, 1, 0};
        Twins.numbers("setStart", Schools::busy, (x, n) -> x.setStart(n, 60), 3, n -> due[n]);
        Twins.numbers("setStart", Schools::full, (x, n) -> x.setStart(n, 0), 4, n -> n == 3 ? 5 : 0);
        Twins.numbers("setStart of none", SkiSchool::new, (x, n) -> x.setStart(n, 0), 0, n -> 0);
    }

    @Edge(promise = 37, says = "`minute`: 0 to 60")
    static void setStartMinutes() {
        Twins.range("setStart(minute)", Schools::busy, (x, minute) -> x.setStart(0, minute), 0, 60, minute -> 2);
        Twins.noTrace("group and minute", Schools::busy, x -> x.setStart(3, 61), BAD);
    }

    @Edge(promise = 37, says = "Returns the previous start minute")
    static void setStartReturnsThePrevious() {
        SkiSchool x = Schools.of("g3a1;");
        Check.due("the first", x.setStart(0, 60), 0);
        Check.due("the greatest", x.setStart(0, 0), 60);
        Check.due("the smallest", x.setStart(0, 0), 0);
    }

    @Edge(promise = 37, says = "`minute`: 0 to 60")
    static void theLatestStart() {
        SkiSchool x = atLift("g3a1;p3a;", 1, 1, 20, 20);
        starts(x, 60);
        run("before it", x, 60, each(0), each(0), 0, 0);
        run("at it", x, 61, each(0), each(1), 0, 1);
    }

    // ---- Promise 38: simulate

    @Edge(promise = 38, says = "`minutes`: how many minutes it goes through, 1 to 180")
    static void simulateMinutes() {
        Twins.range("simulate", () -> {
            SkiSchool x = atLift("g3a1;p3a;", 1, 10, 20, 20);
            starts(x, 1);
            x.simulate(7);
            return x;
        }, SkiSchool::simulate, 1, 180, minutes -> Math.min(9, minutes - 1));
    }

    @Edge(promise = 38, says = "BAD if minutes is out of range")
    static void aRefusedSimulationKeepsTheResults() {
        SkiSchool x = atLift("g3a2;p3a;p3a;", 1, 10, 20, 20);
        run("two", x, 5, each(5), each(0), 1, 1);
        Check.due("0", x.simulate(0), BAD);
        Check.due("181", x.simulate(181), BAD);
        Check.due("waited", x.waited(0), 5);
        Check.due("longestQueue", x.longestQueue(0), 1);
        Check.due("carried", x.carried(0), 1);
    }

    @Edge(promise = 38, says = "Returns the sum of the waiting times of all groups")
    static void theSumOfNoneAndOfAll() {
        Check.due("an empty school", new SkiSchool().simulate(180), 0);
        Check.due("no lift", Schools.assigned("g3a1;p3a;").simulate(180), 0);
        SkiSchool x = atLift("g1a1;g3a1;g5a1;g7a1;p1a;p3a;p5a;p7a;", 1, 10, 20, 20);
        starts(x, 1, 2, 3, 4);
        run("four", x, 10, each(9, 8, 7, 6), each(0, 0, 0, 0), 4, 0);
    }

    // ---- Promises 39 to 42: the results

    @Edge(promise = 39, says = "BAD if there is no such group")
    static void waitedNumbers() {
        Twins.numbers("waited", () -> {
            SkiSchool x = atLift("g1a1;g3a1;g5a1;g7a1;p1a;p3a;p5a;p7a;", 1, 10, 20, 20);
            starts(x, 1, 2, 3, 4);
            x.simulate(10);
            return x;
        }, SkiSchool::waited, 4, n -> 9 - n);
        Twins.numbers("waited of none", SkiSchool::new, SkiSchool::waited, 0, n -> 0);
    }

    @Edge(promise = 39, says = "Returns the minutes that its persons waited, added up over its persons")
    static void theMinutesOfOneAndOfSeven() {
        SkiSchool x = atLift("g3a6;" + "p3a;".repeat(6) + "ia07:1;", 1, 10, 20, 20);
        x.staff();
        starts(x, 1);
        run("seven", x, 10, each(63), each(0), 7, 0);
        for (int n = 0; n < 5; n++) {
            x.removePupil(n);
        }
        x.dismiss(0);
        run("one", x, 10, each(9), each(0), 1, 0);
    }

    @Edge(promise = 40, says = "BAD if there is no such group")
    static void ridesNumbers() {
        int[] due = {7, 5, 4, 3};
        Twins.numbers("rides", () -> {
            SkiSchool x = Schools.assigned("g1a1;g3a1;g5a1;g7a1;p1a;p3a;p5a;p7a;");
            x.addLift(8, 1, 1);
            for (int g = 0; g < 4; g++) {
                x.addStop(g, 0, g + 1);
            }
            x.simulate(13);
            return x;
        }, SkiSchool::rides, 4, n -> due[n]);
        Twins.numbers("rides of none", SkiSchool::new, SkiSchool::rides, 0, n -> 0);
    }

    @Edge(promise = 40, says = "Returns how many rides it completed")
    static void aRideThatOnePersonHasNotBegun() {
        String roster = "g3a6;" + "p3a;".repeat(6);
        run("one still waits", atLift(roster, 5, 10, 20, 20), 10, each(10), each(0), 1, 5);
        run("the last one is taken", atLift(roster, 5, 10, 20, 20), 11, each(10), each(1), 1, 6);
    }

    @Edge(promise = 39, says = "BAD if there is no such group")
    static void waitedOfAClosedGroup() {
        SkiSchool x = Schools.busy();
        x.closeGroup(0);
        Check.due("waited", x.waited(0), BAD);
        Check.due("waited of the next", x.waited(1), Schools.busy().waited(1));
    }

    @Edge(promise = 40, says = "BAD if there is no such group")
    static void ridesOfAClosedGroup() {
        SkiSchool x = Schools.busy();
        x.closeGroup(0);
        Check.due("rides", x.rides(0), BAD);
        Check.due("rides of the next", x.rides(1), Schools.busy().rides(1));
    }

    /** Group n has n + 1 pupils and a stop at lift n, which takes them all at minute 10. */
    private static SkiSchool threeLifts(int minutes) {
        SkiSchool x = Schools.assigned("g1a1;g3a2;g5a3;p1a;p3a;p3a;p5a;p5a;p5a;");
        for (int n = 0; n < 3; n++) {
            x.addLift(8, 10, 20);
            x.addStop(n, n, 20);
            x.setStart(n, 1);
        }
        x.simulate(minutes);
        return x;
    }

    @Edge(promise = 41, says = "BAD if there is no such lift")
    static void longestQueueNumbers() {
        Twins.numbers("longestQueue", () -> threeLifts(10), SkiSchool::longestQueue, 3, n -> n + 1);
        Twins.numbers("longestQueue", Schools::busy, SkiSchool::longestQueue, 2, n -> Schools.busy().longestQueue(n));
        Twins.numbers("longestQueue of none", SkiSchool::new, SkiSchool::longestQueue, 0, n -> 0);
    }

    @Edge(promise = 41, says = "Returns the greatest length that the queue had after step 3 of a minute")
    static void theGreatestLengthIsNotTheLast() {
        SkiSchool x = atLift("g3a6;" + "p3a;".repeat(6), 1, 1, 20, 20);
        run("5, 4, 3, 2, 1, 0", x, 40, each(15), each(1), 5, 6);
        starts(x, 60);
        run("a new simulation", x, 1, each(0), each(0), 0, 0);
    }

    @Edge(promise = 42, says = "BAD if there is no such lift")
    static void carriedNumbers() {
        Twins.numbers("carried", () -> threeLifts(11), SkiSchool::carried, 3, n -> n + 1);
        Twins.numbers("carried", Schools::busy, SkiSchool::carried, 2, n -> Schools.busy().carried(n));
        Twins.numbers("carried of none", SkiSchool::new, SkiSchool::carried, 0, n -> 0);
    }

    @Edge(promise = 42, says = "a person who was taken several times is counted each time")
    static void onePersonNinetyTimes() {
        run("ninety", atLift("g3a1;p3a;", 1, 1, 1, 1), 180, each(0), each(90), 0, 90);
        run("seven in the last departure", atLift("g3a6;" + "p3a;".repeat(6), 8, 10, 5, 5), 171, each(0), each(18), 0, 108);
    }

    // ---- Promise 43: bestStart

    /** Four pupils and one seat in each minute: they wait 3 + 2 + 1 minutes, but for those after the end. */
    private static SkiSchool fourForOneSeat() {
        return atLift("g3a4;p3a;p3a;p3a;p3a;", 1, 1, 20, 20);
    }

    @Edge(promise = 43, says = "Finds the start minute from 0 to 30 with which a group would have the least waiting time")
    static void bestStartAt30AndNotAt31() {
        for (int minutes = 1; minutes <= 30; minutes++) {
            Check.due("bestStart(0, " + minutes + ")", fourForOneSeat().bestStart(0, minutes), minutes);
        }
        Check.due("31 would be without waiting", fourForOneSeat().bestStart(0, 31), 30);
        Check.due("31 would be with less waiting", fourForOneSeat().bestStart(0, 32), 30);
    }

    @Edge(promise = 43, says = "Returns the start minute, of several the smallest one")
    static void bestStartOfSeveralTheSmallest() {
        Check.due("all are the same", fourForOneSeat().bestStart(0, 33), 0);
        Check.due("never any waiting", atLift("g3a1;p3a;", 1, 1, 1, 1).bestStart(0, 180), 0);
        SkiSchool x = atLift("g3a1;g5a1;p3a;p5a;", 1, 10, 20, 20);
        Check.due("10, 20 and 30 are without waiting", x.bestStart(1, 40), 10);
    }

    @Edge(promise = 43, says = "`minutes`: how many minutes the simulation goes through, 1 to 180")
    static void bestStartMinutes() {
        Twins.range("bestStart(minutes)", () -> {
            SkiSchool x = atLift("g3a1;p3a;", 1, 10, 20, 20);
            starts(x, 3);
            x.simulate(9);
            return x;
        }, (x, minutes) -> x.bestStart(0, minutes), 1, 180, minutes -> 0);
    }

    @Edge(promise = 43, says = "BAD if there is no such group")
    static void bestStartNumbers() {
        String roster = "g1a1;g3a1;g5a1;g7a1;p1a;p3a;p5a;p7a;";
        Twins.numbers("bestStart", () -> atLift(roster, 8, 1, 1, 1), (x, n) -> x.bestStart(n, 180), 4, n -> 0);
        Twins.numbers("bestStart of none", SkiSchool::new, (x, n) -> x.bestStart(n, 180), 0, n -> 0);
        Twins.noTrace("group and minutes", Schools::full, x -> x.bestStart(4, 181), BAD);
    }

    @Edge(promise = 43, says = "STATE if the group would not take part")
    static void bestStartOfAGroupThatTakesNoPart() {
        Supplier<SkiSchool> noStop = () -> Schools.staffed("g3a1;p3a;ia07:1;");
        Supplier<SkiSchool> noPupil = () -> {
            SkiSchool x = atLift("g3a1;p3a;ia07:1;", 2, 1, 1, 1);
            x.staff();
            x.removePupil(0);
            return x;
        };
        Twins.noTrace("without a stop", noStop, x -> x.bestStart(0, 10), STATE);
        Twins.noTrace("without a pupil", noPupil, x -> x.bestStart(0, 10), STATE);
        Twins.noTrace("without both", () -> Schools.of("g3a1;"), x -> x.bestStart(0, 180), STATE);
        SkiSchool x = noPupil.get();
        Schools.add(x, "p3a;");
        x.assign();
        Check.due("with both", x.bestStart(0, 10), 0);
    }

    @Edge(promise = 43, says = "BAD if there is no such group or minutes is out of range; STATE if the group would not take part")
    static void bestStartIsBadBeforeState() {
        Twins.noTrace("0", () -> Schools.assigned("g3a1;p3a;"), x -> x.bestStart(0, 0), BAD);
        Twins.noTrace("181", () -> Schools.assigned("g3a1;p3a;"), x -> x.bestStart(0, 181), BAD);
    }

    @Edge(promise = 43, says = "if the other groups keep their start minutes")
    static void bestStartWithTheOthersAtTheirStarts() {
        SkiSchool x = atLift("g3a1;g5a1;p3a;p5a;", 1, 10, 20, 20);
        Check.due("the other one has the seat at 0", x.bestStart(1, 30), 10);
        starts(x, 10, 0);
        Check.due("the other one has the seat at 10", x.bestStart(1, 30), 0);
        starts(x, 60, 60);
        Check.due("the other one never comes", x.bestStart(1, 30), 0);
    }

    @Edge(promise = 43, says = "with which a group would have the least waiting time")
    static void bestStartLooksAtOneGroupOnly() {
        SkiSchool x = atLift("g3a1;g5a1;p3a;p5a;", 1, 10, 20, 20);
        Check.due("the other one waits", x.bestStart(0, 10), 0);
    }

    @Edge(promise = 43, says = "Nothing changes; the kept results stay, too.")
    static void bestStartLeavesNoTrace() {
        Supplier<SkiSchool> late = () -> {
            SkiSchool x = fourForOneSeat();
            x.setStart(0, 60);
            x.simulate(62);
            return x;
        };
        Twins.noTrace("bestStart", late, x -> x.bestStart(0, 20), 20);
        SkiSchool x = late.get();
        x.bestStart(0, 180);
        Check.due("waited", x.waited(0), 5);
        Check.due("longestQueue", x.longestQueue(0), 3);
        Check.due("carried", x.carried(0), 2);
        Check.due("the start minute", x.setStart(0, 0), 60);
        int best = Schools.full().bestStart(0, 180);
        Check.holds("between 0 and 30", best >= 0 && best <= 30);
        Twins.noTrace("bestStart", Schools::full, y -> y.bestStart(0, 180), best);
    }

    @Edge(promise = 43, says = "Finds the start minute from 0 to 30")
    static void bestStartDoesNotLookAtTheOwnStart() {
        SkiSchool x = fourForOneSeat();
        for (int start = 0; start <= 60; start += 20) {
            x.setStart(0, start);
            Check.due("with the start " + start, x.bestStart(0, 17), 17);
        }
    }
}
