import java.util.ArrayList;
import java.util.List;

/**
 * Reads all that a school holds, also what no call tells straight, such as marks, capacities,
 * programmes and the letters of the text. It takes some 300 calls and leaves the school empty.
 */
final class Probe {
    private static final int NONE = SkiSchool.NONE;
    /** Scores at the edges of the marks 24, 4 and 8, and of the marks 20, 3 and 10. */
    private static final int[][] SCORES = {
        {4, 10, 6, 4}, {4, 10, 5, 4}, {3, 10, 10, 10}, {2, 2, 2, 2}, {2, 2, 2, 1},
        {3, 10, 4, 3}, {3, 10, 3, 3}, {2, 10, 10, 10}, {3, 3, 2, 2}, {3, 2, 2, 2}
    };

    private final SkiSchool x;
    private final List<Long> answers = new ArrayList<>();

    private Probe(SkiSchool x) {
        this.x = x;
    }

    static List<Long> of(SkiSchool x) {
        Probe probe = new Probe(x);
        probe.see(x.digest());
        probe.plans();
        probe.teaching();
        probe.simulations();
        probe.grades();
        probe.staffAndPay();
        probe.programmes();
        probe.capacities();
        probe.empty();
        probe.marks();
        probe.families();
        probe.text();
        return probe.answers;
    }

    private void see(long answer) {
        answers.add(answer);
    }

    private void plans() {
        for (int f = 0; f < 8; f++) {
            see(x.splitGain(f));
        }
        see(x.extraPlaced(3, 0, 2));
    }

    private void teaching() {
        for (int n = 0; n < 32; n++) {
            see(x.canTeach(n / 4, n % 4));
        }
    }

    private void simulations() {
        for (int g = 0; g < 4; g++) {
            see(x.bestStart(g, 40));
        }
        see(x.simulate(61));
        see(x.digest());
        for (int g = 0; g < 4; g++) {
            see(x.setStart(g, g));
        }
        see(x.simulate(90));
        see(x.digest());
    }

    /** A pupil who has been graded on this day already is not graded. */
    private void grades() {
        for (int n = 0; n < 8; n++) {
            for (int e = 0; e < 4; e++) {
                see(x.score(n, e, 8));
            }
            see(x.grade(n));
        }
        see(x.digest());
    }

    private void staffAndPay() {
        see(x.pay(1));
        see(x.staff());
        see(x.digest());
        see(x.assign());
        see(x.digest());
        see(x.staff());
        see(x.pay(2));
        see(x.digest());
        see(x.simulate(180));
        see(x.digest());
    }

    private void programmes() {
        for (int g = 0; g < 4; g++) {
            see(x.clearStops(g));
        }
        see(x.addLift(1, 1, 1));
    }

    /** Pupils of all levels who speak everything fill each group that they fit. */
    private void capacities() {
        removePupils();
        for (int n = 0; n < 20; n++) {
            see(x.addPupil(n % 8, 63, NONE));
        }
        see(x.assign());
        see(x.digest());
    }

    private void removePupils() {
        for (int n = 0; n < 20; n++) {
            see(x.removePupil(n));
        }
    }

    private void empty() {
        removePupils();
        for (int g = 0; g < 4; g++) {
            see(x.closeGroup(g));
        }
        for (int i = 0; i < 8; i++) {
            see(x.dismiss(i));
        }
    }

    private void marks() {
        see(x.addPupil(3, 1, NONE));
        for (int[] scores : SCORES) {
            Check.scores(x, 0, scores[0], scores[1], scores[2], scores[3]);
            see(x.grade(0));
            see(x.nextDay());
        }
        see(x.setMarks(0, 0, 0));
        see(x.removePupil(0));
    }

    /** Two members find no places in two groups of one place if their family is kept together. */
    private void families() {
        see(x.openGroup(3, 0, 1));
        see(x.openGroup(3, 0, 1));
        for (int f = 0; f < 8; f++) {
            see(x.addPupil(3, 1, f));
            see(x.addPupil(3, 1, f));
            see(x.assign());
            see(x.removePupil(0));
            see(x.removePupil(1));
        }
        see(x.closeGroup(0));
        see(x.closeGroup(1));
    }

    private void text() {
        see(x.load());
        see(x.digest());
        see(x.type(';'));
        see(x.load());
        see(x.digest());
        see(x.clearText());
        see(x.clearText());
    }
}
