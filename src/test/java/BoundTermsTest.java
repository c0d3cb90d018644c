/** Boundary cases of the Terms, part I: ranges, hours over midnight, and what each KIND is like there. */
public final class BoundTermsTest {
    /** A WINDOW of each KIND by its number, of one FIGURE, all in ROOM 0 and FACING one hour. */
    private static String eight(int figure, String facing) {
        StringBuilder text = new StringBuilder();
        for (int kind = 0; kind < 8; kind++) {
            text.append('w').append(kind).append(figure).append('0').append(facing).append(';');
        }
        return text.toString();
    }

    /** What each of eight WINDOWS answers at an hour. */
    private static void each(String setup, int hour, int what, int... answers) {
        String[] steps = new String[answers.length];
        for (int w = 0; w < answers.length; w++) {
            steps[w] = "at " + w + " " + hour + " " + what + " = " + answers[w];
        }
        Bounds.run(setup, steps);
    }

    private static void calls() {
        Bounds.says("What it is", "An object is used for at most 512 calls after it has been made");
        String[] steps = new String[512];
        for (int i = 0; i < 511; i++) {
            steps[i] = "set 0 " + (i + 13) % 24 + " = " + (i + 12) % 24;
        }
        steps[511] = "count 1 = " + (511 + 12) % 24;
        Bounds.run("", steps);
        for (int i = 0; i < 511; i++) {
            steps[i] = "image = 0";
        }
        steps[511] = "restore = 0";
        Bounds.run("", steps);
    }

    private static void ranges() {
        Bounds.says("Terms I", "ROOMS 0 .. 3");
        Bounds.run("keep 0 1 0 5", "builds 0 0 12 = 0", "builds 0 3 12 = 1", "window 0 2 = 0", "window 1 2 = 3");
        Bounds.still("keep 0 1 0 5", "builds 0 -1 12 = -1", "builds 0 4 12 = -1");
        Bounds.still("w05012;w05312;", "light -1 12 = -1", "light 0 12 = 8", "light 3 12 = 8", "light 4 12 = -1");
        Bounds.says("Terms I", "each with a NEED of light (0 .. 20; 0 at first)");
        for (int room = 0; room < 4; room++) {
            Bounds.run("", "needs " + room + " 20 = 0", "needs " + room + " 0 = 20", "needs " + room + " 1 = 0");
            Bounds.still("needs " + room + " 7", "needs " + room + " -1 = -1", "needs " + room + " 21 = -1");
        }
        Bounds.says("Terms I", "WINDOWS 0 .. 7 as they come (8 at most)");
        Bounds.run("keep 0 1 0 5", "builds 0 0 0 = 0", "builds 0 1 1 = 1", "builds 0 2 2 = 2", "builds 0 3 3 = 3",
                "builds 0 0 4 = 4", "builds 0 1 5 = 5", "builds 0 2 6 = 6", "builds 0 3 7 = 7", "builds 0 0 8 = -2",
                "count 0 = 8", "window 0 3 = 0", "window 7 3 = 7");
        Bounds.still(eight(5, "12"), "window -1 0 = -1", "window 7 0 = 7", "window 8 0 = -1");
        Bounds.says("Terms I", "each with a FIGURE (0 .. 9)");
        Bounds.run("", "keep 0 1 0 0 = 0", "keep 0 1 0 9 = 0", "keep 0 1 0 10 = -1", "keep 0 1 0 -1 = -1", "toss 0 = 9");
        Bounds.says("Terms I", "FACING an hour (0 .. 23)");
        Bounds.run("keep 0 1 0 5", "builds 0 0 0 = 0", "builds 0 0 23 = 1", "window 0 3 = 0", "window 1 3 = 23");
        Bounds.still("keep 0 1 0 5", "builds 0 0 -1 = -1", "builds 0 0 24 = -1");
        Bounds.says("Terms I", "STOPPED or not (not at first)");
        Bounds.run("keep 0 1 0 5", "builds 0 0 0 = 0", "window 0 4 = 0", "count 5 = 0");
        Bounds.run("w05000;s0; / keep 0 1 0 5", "builds 0 0 0 = 1", "window 1 4 = 0", "count 5 = 1");
        Bounds.says("Terms I", "HOUR (0 .. 23; 12 at first)");
        Bounds.run("", "count 1 = 12", "set 0 0 = 12", "set 0 23 = 0", "count 1 = 23");
        Bounds.still("", "set 0 -1 = -1", "set 0 24 = -1");
        Bounds.says("Terms I", "RATE (1 .. 9; 1 at first)");
        Bounds.run("", "count 4 = 1", "set 1 9 = 1", "set 1 1 = 9", "count 4 = 1");
        Bounds.still("set 1 4", "set 1 0 = -1", "set 1 10 = -1");
    }

    private static void years() {
        Bounds.says("Terms I", "YEAR (0 .. 999; 0 at first)");
        String nine = Bounds.times(9, "y99;");
        Bounds.run("", "count 2 = 0", "years 1 = 0", "count 2 = 1");
        Bounds.run(nine + "y99;y08;", "count 2 = 998", "years 2 = -3", "count 2 = 998", "years 1 = 0", "count 2 = 999",
                "years 1 = -3", "count 2 = 999");
        Bounds.says("Terms I", "OWED (0 .. 99999; 0 at first)");
        Bounds.run("", "count 3 = 0", "pays 1 = -3");
        // Three WINDOWS of 11 and one of 8, nine times: 369 a YEAR, and 271 times 369 are 99999.
        String dear = "w09000;w09000;w09000;w06000;r9;y99;y99;y72;";
        Bounds.run(dear, "count 3 = 99630", "years 1 = 99999", "years 1 = 99999", "pays 0 = 99999");
        Bounds.run(dear + "p001;", "count 3 = 99629", "years 1 = 99998", "years 1 = 99999", "years 1 = 99999");
        Bounds.says("Terms I", "A YEAR: .. (99999 at most)");
        Bounds.run(dear + "p002;", "years 2 = 99999", "pays 999 = 99000", "years 2 = 99738", "years 1 = 99999");
        Bounds.says("Terms I", "FIGURE and 1 times RATE for each that MOVES at HOUR");
        // A CAT of FIGURE 0: 1 is due, and 1 for moving; one of 9: 10 and 10.
        Bounds.run("w30000;r9;h00;", "years 1 = 18", "set 0 23 = 0", "years 1 = 27");
        Bounds.run("w39000;r9;h22;", "years 1 = 180", "set 0 23 = 22", "years 1 = 270");
        Bounds.run("w39000;w39000;s1;r9;h22;", "years 1 = 180");
        Bounds.run(eight(0, "12") + "h12;", "allDue = 9", "years 1 = 13");
        Bounds.says("Terms I", "OWED are all DUES of those not STOPPED times RATE more");
        Bounds.run("", "years 99 = 0");
        Bounds.run("w05000;s0;", "years 99 = 0");
        Bounds.run("w00000;", "years 99 = 198");
    }

    private static void hoursApart() {
        Bounds.says("Terms I", "APART: hours from one to another the shorter way round (0 .. 12)");
        // A CURTAIN at its own hour and one to both sides; PAINTED ones lose 1 for each three hours.
        for (int facing = 0; facing < 24; facing++) {
            String two = facing < 10 ? "0" + facing : "" + facing;
            String[] steps = new String[72];
            int[] lost = {0, 0, 0, 1, 1, 1, 2, 2, 2, 3, 3, 3, 4, 3, 3, 3, 2, 2, 2, 1, 1, 1, 0, 0};
            int[] light = {12, 12, 12, 9, 9, 9, 9, 4, 4, 4, 4, 4, 4, 4, 4, 4, 4, 4, 9, 9, 9, 9, 12, 12};
            for (int n = 0; n < 24; n++) {
                int hour = (facing + n) % 24;
                steps[n] = "at 0 " + hour + " 1 = " + (n <= 1 || n == 23 ? 1 : 0);
                steps[24 + n] = "at 1 " + hour + " 2 = " + (9 - lost[n]);
                steps[48 + n] = "at 2 " + hour + " 0 = " + light[n];
            }
            Bounds.run("w490" + two + ";w190" + two + ";w090" + two + ";", steps);
        }
        Bounds.still("w19000;", "at 0 12 2 = 5", "at 0 13 2 = 6", "at 0 11 2 = 6");
        Bounds.still("w19023;", "at 0 11 2 = 5", "at 0 0 2 = 9", "at 0 1 2 = 9", "at 0 2 2 = 8");
    }

    private static void shines() {
        Bounds.says("Terms I", "SHINES: WINDOW FIGURE, and 3 more, if it is APART from what it FACES by 2 or less, "
                + "half of FIGURE, cut, if by 7 or more; PAINTED 0; BLIND 0; LATTICE half of a WINDOW's, cut; "
                + "SUITOR 1 more than a LATTICE's; others as what they are under");
        for (String facing : new String[] {"00", "12", "23"}) {
            int f = Integer.parseInt(facing);
            String nines = eight(9, facing);
            String none = eight(0, facing);
            String ones = eight(1, facing);
            for (int side = 1; side < 24; side += 22) {
                each(nines, (f + 2 * side) % 24, 0, 12, 0, 0, 0, 0, 6, 0, 7);
                each(nines, (f + 3 * side) % 24, 0, 9, 0, 0, 0, 0, 4, 0, 5);
                each(nines, (f + 6 * side) % 24, 0, 9, 0, 0, 0, 0, 4, 0, 5);
                each(nines, (f + 7 * side) % 24, 0, 4, 0, 0, 0, 0, 2, 0, 3);
                each(none, (f + 2 * side) % 24, 0, 3, 0, 0, 0, 0, 1, 0, 2);
                each(none, (f + 3 * side) % 24, 0, 0, 0, 0, 0, 0, 0, 0, 1);
                each(none, (f + 7 * side) % 24, 0, 0, 0, 0, 0, 0, 0, 0, 1);
                each(ones, (f + 2 * side) % 24, 0, 4, 0, 0, 0, 0, 2, 0, 3);
                each(ones, (f + 6 * side) % 24, 0, 1, 0, 0, 0, 0, 0, 0, 1);
                each(ones, (f + 7 * side) % 24, 0, 0, 0, 0, 0, 0, 0, 0, 1);
            }
            each(nines, f, 0, 12, 0, 0, 0, 0, 6, 0, 7);
            each(nines, (f + 12) % 24, 0, 4, 0, 0, 0, 0, 2, 0, 3);
        }
    }

    private static void dues() {
        Bounds.says("Terms I", "DUE: WINDOW 2 and FIGURE; PAINTED 1; BLIND 0; CAT FIGURE more than a PAINTED's; "
                + "LATTICE 1 less than a WINDOW's; SUITOR twice a LATTICE's; others as what they are under");
        int[] least = {2, 1, 0, 1, 1, 1, 1, 2};
        int[] most = {11, 1, 0, 10, 1, 10, 1, 20};
        for (int w = 0; w < 8; w++) {
            Bounds.still(eight(0, "00"), "window " + w + " 5 = " + least[w]);
            Bounds.still(eight(9, "23"), "window " + w + " 5 = " + most[w]);
        }
    }

    private static void moves() {
        Bounds.says("Terms I", "MOVES: WINDOW not; CAT in even hours; CURTAIN APART 1 or less from what it FACES; "
                + "MAID in that hour; others not");
        String atMidnight = eight(9, "00");
        each(atMidnight, 22, 1, 0, 0, 0, 1, 0, 0, 0, 0);
        each(atMidnight, 23, 1, 0, 0, 0, 0, 1, 0, 0, 0);
        each(atMidnight, 0, 1, 0, 0, 0, 1, 1, 0, 1, 1);
        each(atMidnight, 1, 1, 0, 0, 0, 0, 1, 0, 0, 0);
        each(atMidnight, 2, 1, 0, 0, 0, 1, 0, 0, 0, 0);
        each(atMidnight, 12, 1, 0, 0, 0, 1, 0, 0, 0, 0);
        String late = eight(9, "23");
        each(late, 21, 1, 0, 0, 0, 0, 0, 0, 0, 0);
        each(late, 22, 1, 0, 0, 0, 1, 1, 0, 0, 0);
        each(late, 23, 1, 0, 0, 0, 0, 1, 0, 1, 0);
        each(late, 0, 1, 0, 0, 0, 1, 1, 0, 0, 1);
        each(late, 1, 1, 0, 0, 0, 0, 0, 0, 0, 0);
        Bounds.says("Said once more", "hours .. that FIGURE plus 1 divides (0, too)");
        int[] last = {23, 22, 21, 20, 20, 18, 21, 16, 18, 20};
        for (int figure = 0; figure < 10; figure++) {
            String suitor = "w7" + figure + "012;";
            Bounds.still(suitor, "at 0 0 1 = 1", "at 0 " + last[figure] + " 1 = 1", "at 0 " + (figure + 1) + " 1 = 1",
                    "at 0 1 1 = " + (figure == 0 ? 1 : 0));
            for (int hour = last[figure] + 1; hour < 24; hour++) {
                Bounds.still(suitor, "at 0 " + hour + " 1 = 0");
            }
        }
    }

    private static void seems() {
        Bounds.says("Terms I", "SEEMS: WINDOW 9; PAINTED FIGURE, 1 less for each 3 hours APART, cut (0 at least); BLIND 0; "
                + "CAT 2 more than a PAINTED's, if it MOVES; MAID twice a PAINTED's; LATTICE 1 less than a WINDOW's; "
                + "others as what they are under");
        String nines = eight(9, "00");
        each(nines, 0, 2, 9, 9, 0, 11, 9, 8, 18, 8);
        each(nines, 1, 2, 9, 9, 0, 9, 9, 8, 18, 8);
        each(nines, 2, 2, 9, 9, 0, 11, 9, 8, 18, 8);
        each(nines, 3, 2, 9, 8, 0, 8, 8, 8, 16, 8);
        each(nines, 21, 2, 9, 8, 0, 8, 8, 8, 16, 8);
        each(nines, 22, 2, 9, 9, 0, 11, 9, 8, 18, 8);
        each(nines, 12, 2, 9, 5, 0, 7, 5, 8, 10, 8);
        String fours = eight(4, "00");
        each(fours, 11, 2, 9, 1, 0, 1, 1, 8, 2, 8);
        each(fours, 12, 2, 9, 0, 0, 2, 0, 8, 0, 8);
        String threes = eight(3, "00");
        each(threes, 8, 2, 9, 1, 0, 3, 1, 8, 2, 8);
        each(threes, 9, 2, 9, 0, 0, 0, 0, 8, 0, 8);
        each(threes, 12, 2, 9, 0, 0, 2, 0, 8, 0, 8);
        String none = eight(0, "00");
        each(none, 0, 2, 9, 0, 0, 2, 0, 8, 0, 8);
        each(none, 12, 2, 9, 0, 0, 2, 0, 8, 0, 8);
        each(none, 13, 2, 9, 0, 0, 0, 0, 8, 0, 8);
    }

    private static void stopped() {
        Bounds.says("Terms I", "STOPPED ones neither SHINE nor MOVE nor SEEM, and are not DUE");
        String all = eight(9, "00") + "s0;s1;s2;s3;s4;s5;s6;s7;";
        for (int what = 0; what < 3; what++) {
            each(all, 0, what, 0, 0, 0, 0, 0, 0, 0, 0);
            each(all, 12, what, 0, 0, 0, 0, 0, 0, 0, 0);
        }
        Bounds.still(all, "allDue = 0", "light 0 0 = 0", "count 7 = 0", "mostMoving 1 = 0", "suitor 0 = -4", "taken 0 = 0");
        Bounds.run(all, "years 9 = 0", "stops 7 = 0", "years 1 = 20", "set 0 0 = 12", "years 1 = 50");
        Bounds.says("Terms I", "LIGHT of a ROOM at an hour: what its WINDOWS SHINE together");
        Bounds.still(Bounds.times(8, "w09300;"), "light 3 0 = 96", "light 3 12 = 32", "light 2 0 = 0");
    }

    public static void main(String[] args) {
        calls();
        ranges();
        years();
        hoursApart();
        shines();
        dues();
        moves();
        seems();
        stopped();
        Bounds.end();
    }
}
