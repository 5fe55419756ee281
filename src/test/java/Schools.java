/** Schools for the tests of boundary cases. */
final class Schools {
    static final int NONE = SkiSchool.NONE;

    private Schools() {
    }

    /** A school with the entries of a roster, which is read here and not by load. */
    static SkiSchool of(String roster) {
        SkiSchool x = new SkiSchool();
        add(x, roster);
        return x;
    }

    static void add(SkiSchool x, String roster) {
        for (String entry : roster.split(";")) {
            if (!entry.isEmpty()) {
                Check.holds(entry + " is taken", addEntry(x, entry) >= 0);
            }
        }
    }

    /** The same, and the pupils have the groups of the best plan. */
    static SkiSchool assigned(String roster) {
        SkiSchool x = of(roster);
        x.assign();
        return x;
    }

    /** The same, and the active groups have the instructors of the best staffing. */
    static SkiSchool staffed(String roster) {
        SkiSchool x = assigned(roster);
        x.staff();
        return x;
    }

    private static int addEntry(SkiSchool x, String entry) {
        if (entry.startsWith("p")) {
            int slash = entry.indexOf('/');
            int family = slash < 0 ? NONE : entry.charAt(slash + 1) - '0';
            return x.addPupil(entry.charAt(1) - '0', languages(entry), family);
        }
        if (entry.startsWith("g")) {
            return x.openGroup(entry.charAt(1) - '0', entry.charAt(2) - 'a', entry.charAt(3) - '0');
        }
        int colon = entry.indexOf(':');
        int wage = Integer.parseInt(entry.substring(colon + 1));
        return x.hire(languages(entry), entry.charAt(colon - 2) - '0', entry.charAt(colon - 1) - '0', wage);
    }

    private static int languages(String entry) {
        int set = 0;
        for (char letter = 'a'; letter <= 'f'; letter++) {
            set |= entry.indexOf(letter) > 0 ? 1 << letter - 'a' : 0;
        }
        return set;
    }

    /** Everything is in use, and there is room for one more of everything. */
    static SkiSchool busy() {
        SkiSchool x = of("p3a/1;p3ab/1;p2a/2;p4b;p6c;p3a/2;g3a4;g4b2;g6c1;ia07:500;iab25:400;ic67:300;ibc07:350;");
        x.setMarks(20, 3, 10);
        x.setTogether(1, true);
        x.setTogether(4, true);
        x.nextDay();
        Check.scores(x, 5, 9, 9, 9, 9);
        x.grade(5);
        x.score(2, 1, 7);
        x.score(2, 3, 0);
        x.assign();
        x.staff();
        x.pay(7);
        x.addLift(2, 3, 4);
        x.addLift(1, 2, 1);
        x.addStop(0, 0, 3);
        x.addStop(0, 1, 2);
        x.addStop(1, 1, 5);
        x.setStart(0, 2);
        x.setStart(1, 1);
        x.simulate(50);
        type(x, "p1a/3;g5f2");
        return x;
    }

    /** There is no room for one more pupil, group, instructor, lift, stop or character. */
    static SkiSchool full() {
        SkiSchool x = of("p3a/1;p3a/1;p2a/1;p4a/2;".repeat(5) + "g3a6;".repeat(4) + "ia07:700;iab25:400;".repeat(4));
        x.setTogether(2, true);
        x.assign();
        x.staff();
        x.pay(9);
        for (int n = 0; n < 3; n++) {
            x.addLift(2 + n, 4 - n, 3);
        }
        for (int n = 0; n < 16; n++) {
            x.addStop(n / 4, n % 3, 1 + n);
        }
        x.setStart(3, 5);
        x.simulate(70);
        type(x, "p1a/3;g5f2;".repeat(9) + "p");
        return x;
    }

    static void type(SkiSchool x, String text) {
        for (char sign : text.toCharArray()) {
            x.type(sign);
        }
    }
}
