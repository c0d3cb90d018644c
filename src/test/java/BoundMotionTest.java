/** Boundary cases of promises 20 to 26: what moves, what seems. */
public final class BoundMotionTest {
    private static final String MOST = "2147483647";
    private static final String LEAST = "-2147483648";

    private static void wrongWhat(String setup, String call) {
        Bounds.still(setup, call + " -1 = -1", call + " 2 = -1", call + " " + MOST + " = -1", call + " " + LEAST + " = -1");
    }

    private static void looks() {
        Bounds.says("Promise 20", "LOOKS (bits); -4");
        Bounds.still("", "looks = 0");
        Bounds.still("w69005;", "looks = 0");
        Bounds.still("w20000;w20000;", "looks = -4");
        Bounds.says("Terms II", "LOOKS: the fewest hours (bits ..)");
        Bounds.still("w69000;w20000;", "looks = 1");
        Bounds.still("w69023;w20000;", "looks = " + (1 << 23));
        Bounds.still("w69000;w69001;w20000;", "looks = 3");
        Bounds.still("w69000;w69023;w20000;", "looks = " + (1 + (1 << 23)));
        Bounds.still("w69022;w69023;w20000;", "looks = " + (3 << 22));
        Bounds.still("w69000;w69022;w69023;w20000;", "looks = " + (1 + (3 << 22)));
        Bounds.still("w69021;w69022;w69023;w20000;", "looks = " + (7 << 21));
        Bounds.still("w69000;w69001;w69002;w20000;", "looks = 7");
        // By 1 and 6 they are four; 0, 1 and 2 tell them too, and are less as bits, but are more hours.
        Bounds.still("w70003;w75020;w47021;w40000;", "looks = 66");
        Bounds.still("w47004;w48017;w71012;w78002;", "looks = 17");
        Bounds.says("Terms II", "LOOKS: .. 3 at most .. -4");
        Bounds.still("w69003;w69009;w69015;w69021;", "looks = " + (1 << 3 | 1 << 9 | 1 << 15));
        Bounds.still("w69003;w69009;w69015;w69021;w20000;", "looks = -4");
        // All eight ways in which one can move at 4, 5 and 6.
        Bounds.still("w20000;w69004;w69005;w69006;w49004;w49006;w39000;w70000;", "looks = 112");
        Bounds.says("Terms II", "LOOKS: .. of several the least");
        Bounds.still("w70000;w20000;", "looks = 1");
        Bounds.still("w70000;w39000;", "looks = 2");
        Bounds.still("w49012;w20000;", "looks = " + (1 << 11));
        Bounds.still("w49000;w20000;", "looks = 1");
        Bounds.still("w49023;w69023;", "looks = 1");
        Bounds.still("w69005;w69007;w69009;", "looks = " + (1 << 5 | 1 << 7));
        Bounds.still("w69005;w69007;w69009;w69011;", "looks = " + (1 << 5 | 1 << 7 | 1 << 9));
        Bounds.says("Terms II", "LOOKS: .. of all WINDOWS (not STOPPED)");
        Bounds.still("w20000;w20000;s1;", "looks = 0");
        Bounds.still("w20000;w20000;w69023;s0;", "looks = " + (1 << 23));
        Bounds.still("w20000;w20000;w69023;s2;", "looks = -4");
        Bounds.still("w69003;w69009;w69015;w69021;w20000;s4;", "looks = " + (1 << 3 | 1 << 9 | 1 << 15));
        Bounds.still("w69003;w69009;w69015;w69021;w20000;s0;", "looks = " + (1 << 9 | 1 << 15 | 1 << 21));
        Bounds.still("w20000;w20000;s0;s1;", "looks = 0");
        Bounds.still("w20000;w20000;w69000;w69000;s1;s2;", "looks = 1");
    }

    private static void mostMoving() {
        Bounds.says("Promise 21", "MOST MOVING: the hour (what 0), how many (1). -1.");
        wrongWhat("w69012;", "mostMoving");
        Bounds.still("", "mostMoving 0 = 0", "mostMoving 1 = 0");
        Bounds.still("w09000;w19000;w29000;w59000;", "mostMoving 0 = 0", "mostMoving 1 = 0");
        Bounds.still("w69023;", "mostMoving 0 = 23", "mostMoving 1 = 1");
        Bounds.still("w69001;", "mostMoving 0 = 1", "mostMoving 1 = 1");
        Bounds.still("w69023;s0;", "mostMoving 0 = 0", "mostMoving 1 = 0");
        Bounds.still(Bounds.times(8, "w69023;"), "mostMoving 0 = 23", "mostMoving 1 = 8");
        Bounds.still(Bounds.times(8, "w69023;") + "s7;s0;", "mostMoving 0 = 23", "mostMoving 1 = 6");
        Bounds.says("Terms II", "MOST MOVING: the hour at which most MOVE, of several the least");
        Bounds.still("w69023;w69000;", "mostMoving 0 = 0", "mostMoving 1 = 1");
        Bounds.still("w69023;w69005;", "mostMoving 0 = 5", "mostMoving 1 = 1");
        Bounds.still("w69023;w69005;w69023;", "mostMoving 0 = 23", "mostMoving 1 = 2");
        Bounds.still("w49000;w69023;", "mostMoving 0 = 23", "mostMoving 1 = 2");
        Bounds.still("w49023;w69000;", "mostMoving 0 = 0", "mostMoving 1 = 2");
        Bounds.still("w49023;", "mostMoving 0 = 0", "mostMoving 1 = 1");
        Bounds.still("w49022;", "mostMoving 0 = 21", "mostMoving 1 = 1");
    }

    private static void taken() {
        Bounds.says("Promise 22", "TAKEN (bits). -1.");
        Bounds.still("w69012;", "taken -1 = -1", "taken 21 = -1", "taken " + MOST + " = -1", "taken " + LEAST + " = -1");
        Bounds.still("", "taken 0 = 0", "taken 20 = 0");
        Bounds.still(Bounds.times(8, "w19012;"), "taken 0 = 255", "taken 9 = 255", "taken 10 = 0");
        Bounds.says("Terms II", "TAKEN: WINDOWS (bits; not STOPPED) that SEEM v (0 .. 20) or more at HOUR");
        Bounds.still(Bounds.times(8, "w19012;") + "s0;s7;", "taken 0 = 126", "taken 9 = 126");
        Bounds.still("w16012;", "taken 6 = 1", "taken 7 = 0");
        Bounds.still("w16012;h15;", "taken 5 = 1", "taken 6 = 0");
        Bounds.still("w69000;h23;", "taken 18 = 1", "taken 19 = 0", "taken 20 = 0");
        Bounds.still("w39000;h22;", "taken 11 = 1", "taken 12 = 0");
        Bounds.still("w39000;h23;", "taken 9 = 1", "taken 10 = 0");
        Bounds.still("w20000;", "taken 0 = 1", "taken 1 = 0");
        Bounds.still("w10000;", "taken 0 = 1", "taken 1 = 0");
        Bounds.says("Terms II", "TAKEN: .. but do not SHINE");
        Bounds.still("w01000;", "taken 0 = 1", "taken 9 = 1", "taken 10 = 0");
        Bounds.still("w02000;", "taken 0 = 0", "taken 9 = 0");
        Bounds.still("w00012;h14;", "taken 0 = 0");
        Bounds.still("w00012;h15;", "taken 9 = 1");
        Bounds.still("w51012;h15;", "taken 8 = 1", "taken 9 = 0");
        Bounds.still("w52012;h15;", "taken 0 = 0");
        Bounds.still("w53000;", "taken 8 = 1");
        Bounds.still("w54000;", "taken 0 = 0");
        Bounds.still("w70000;", "taken 0 = 0", "taken 8 = 0");
    }

    private static void bestHour() {
        Bounds.says("Promise 23", "BEST HOUR; -4. -1.");
        String eight = "w05012;w15012;w25012;w35012;w45012;w55012;w65012;w75012;";
        Bounds.still(eight, "bestHour -1 = -1", "bestHour 8 = -1", "bestHour " + MOST + " = -1", "bestHour " + LEAST + " = -1",
                "bestHour 0 = -4", "bestHour 1 = 10", "bestHour 2 = -4", "bestHour 3 = 10", "bestHour 4 = 10",
                "bestHour 5 = -4", "bestHour 6 = 10", "bestHour 7 = -4");
        Bounds.still("", "bestHour 0 = -1");
        Bounds.still("w15012;", "bestHour 1 = -1");
        Bounds.says("Terms II", "BEST HOUR of one that is PAINTED (or under it), STOPPED or not");
        Bounds.still(eight + "s0;s1;s2;s3;s4;s5;s6;s7;", "bestHour 0 = -4", "bestHour 1 = 10", "bestHour 2 = -4",
                "bestHour 3 = 10", "bestHour 4 = 10", "bestHour 5 = -4", "bestHour 6 = 10", "bestHour 7 = -4", "bestHour 8 = -1");
        Bounds.says("Terms II", "BEST HOUR: .. at which it would SEEM most, of several the least");
        String[] facings = {"00", "01", "02", "03", "04", "21", "22", "23"};
        int[] best = {0, 0, 0, 1, 2, 19, 0, 0};
        int[] bestOfCat = {0, 0, 0, 2, 2, 20, 0, 0};
        for (int i = 0; i < facings.length; i++) {
            for (int kind = 1; kind <= 6; kind++) {
                String one = "w" + kind + "9" + "0" + facings[i] + ";";
                int due = kind == 2 || kind == 5 ? -4 : kind == 3 ? bestOfCat[i] : best[i];
                Bounds.still(one, "bestHour 0 = " + due);
            }
        }
        Bounds.still("w10012;w30013;w40012;w60012;", "bestHour 0 = 0", "bestHour 1 = 0", "bestHour 2 = 0", "bestHour 3 = 0");
        Bounds.still("w11012;w31013;w41012;w61012;", "bestHour 0 = 10", "bestHour 1 = 12", "bestHour 2 = 10", "bestHour 3 = 10");
    }

    private static void game() {
        Bounds.says("Promise 24", "GAME: DUE (what 0), the first hour (1; -4). -1.");
        String one = "w69006;";
        Bounds.still(one, "game -1 0 = -1", "game 5 0 = -1", "game 0 -1 = -1", "game 1 2 = -1", "game 5 2 = -1",
                "game " + MOST + " 0 = -1", "game " + LEAST + " 1 = -1", "game 1 " + MOST + " = -1", "game 1 " + LEAST + " = -1");
        Bounds.says("Terms II", "GAME: .. n looks (0 .. 4) in all; .. (-4 n 0)");
        Bounds.still(one, "game 0 0 = 0", "game 0 1 = -4", "game 1 0 = 10", "game 1 1 = 6", "game 4 0 = 10", "game 4 1 = 6");
        Bounds.still("", "game 0 0 = 0", "game 0 1 = -4", "game 1 0 = 0", "game 1 1 = 0", "game 4 0 = 0", "game 4 1 = 0");
        // Eight SUITORS that move at all four hours, 6 each: one is STOPPED behind each look.
        String suitors = Bounds.times(8, "w75000;");
        Bounds.still(suitors, "game 1 0 = 48", "game 2 0 = 90", "game 3 0 = 126", "game 4 0 = 156", "game 4 1 = 0");
        Bounds.still(suitors + "s0;s1;s2;s3;s4;s5;r9;", "game 1 0 = 12", "game 2 0 = 18", "game 3 0 = 18", "game 4 0 = 18");
        Bounds.still(suitors + "s1;s2;s3;s4;s5;s6;s7;", "game 1 0 = 6", "game 2 0 = 6", "game 4 0 = 6");
        Bounds.still(suitors + "s0;s1;s2;s3;s4;s5;s6;", "game 1 0 = 6", "game 2 0 = 6", "game 4 0 = 6");
        Bounds.still(suitors + "s0;s1;s2;s3;s4;s5;s6;s7;", "game 4 0 = 0", "game 4 1 = 0");
        Bounds.says("Terms II", "GAME: he looks at an hour of 0, 6, 12, 18 that was not looked at");
        Bounds.still("w69000;", "game 1 0 = 10", "game 1 1 = 0");
        Bounds.still("w69012;", "game 1 0 = 10", "game 1 1 = 12");
        Bounds.still("w69018;", "game 1 0 = 10", "game 1 1 = 18");
        Bounds.still("w69023;w69001;w69005;w69007;w69017;w69019;", "game 1 0 = 0", "game 4 0 = 0", "game 1 1 = 0");
        Bounds.still("w69006;w69006;", "game 1 0 = 20", "game 2 0 = 20", "game 4 0 = 20");
        Bounds.still("w49005;w49019;", "game 1 0 = 10", "game 1 1 = 6", "game 2 0 = 10", "game 2 1 = 0");
        Bounds.says("Terms II", "GAME: what MOVES then (not STOPPED) is DUE FIGURE and 1");
        Bounds.still("w60006;", "game 1 0 = 1");
        Bounds.still("w60006;s0;", "game 1 0 = 0", "game 1 1 = 0");
        Bounds.still("w69006;w60018;s0;", "game 1 0 = 1", "game 1 1 = 18");
        Bounds.says("Terms II", "GAME: his first hour, of several the least");
        Bounds.still("w69018;w69006;", "game 1 1 = 6", "game 2 0 = 10", "game 2 1 = 0");
        // 12 first: 20, and the MAID of 6 is STOPPED; 6 first: 10, and one of 12 is STOPPED: 10 more.
        Bounds.still("w69006;w69012;w69012;", "game 1 1 = 12", "game 2 0 = 20", "game 2 1 = 6");
        Bounds.still("w68006;w69012;w69012;", "game 2 0 = 20", "game 2 1 = 12");
        // 6 first: 10, and 7 of the two at 0; 0 first: 15, and the MAID of 6 is STOPPED.
        Bounds.still("w69006;w67000;w66000;", "game 1 1 = 0", "game 2 0 = 17", "game 2 1 = 6");
        Bounds.still("w30000;w30000;", "game 1 1 = 0", "game 2 0 = 3", "game 3 0 = 3");
    }

    private static void suitor() {
        Bounds.says("Promise 25", "SUITOR: whom (what 0; -4), DAYS (1; -4). -1.");
        wrongWhat("w15012;", "suitor");
        Bounds.still("", "suitor 0 = -4", "suitor 1 = -4");
        Bounds.says("Terms II", "SUITOR: .. -4 none SEEMS above 0");
        Bounds.still("w10012;w29012;w40012;w60012;", "suitor 0 = -4", "suitor 1 = -4");
        Bounds.still("w11012;", "suitor 0 = 0", "suitor 1 = -4");
        Bounds.still("w11012;h14;", "suitor 0 = 0");
        Bounds.still("w11012;h15;", "suitor 0 = -4", "suitor 1 = -4");
        Bounds.still("w05012;s0;", "suitor 0 = -4", "suitor 1 = -4");
        Bounds.still("w05012;w10012;s0;", "suitor 0 = -4", "suitor 1 = -4");
        Bounds.still("w30012;h13;", "suitor 0 = -4");
        Bounds.still("w30012;h14;", "suitor 0 = 0");
        Bounds.says("Terms II", "SUITOR: the WINDOW that SEEMS most at HOUR, of several the greatest FIGURE, then least");
        Bounds.still(Bounds.times(8, "w05012;"), "suitor 0 = 0", "suitor 1 = -4");
        Bounds.still(Bounds.times(7, "w05012;") + "w06012;", "suitor 0 = 7", "suitor 1 = -4");
        Bounds.still("w50000;w51000;", "suitor 0 = 1");
        Bounds.still("w51000;w50000;", "suitor 0 = 0");
        Bounds.still("w64012;w55000;", "suitor 0 = 1");
        Bounds.still("w64012;w54000;", "suitor 0 = 0");
        Bounds.still("w54000;w64012;", "suitor 0 = 0");
        Bounds.still("w59000;w00000;", "suitor 0 = 1");
        Bounds.still("w69012;w00000;w61012;s0;", "suitor 0 = 1");
        Bounds.says("Terms II", "DAYS: behind how many hours (0 .. 23) he first would address another WINDOW than that; -4");
        // The MAID SEEMS 10 or more but for noon, when it SEEMS 8 beside 9.
        String maid = "w00000;w68000;";
        Bounds.still(maid, "suitor 0 = 0", "suitor 1 = 1");
        Bounds.still(maid + "h13;", "suitor 0 = 1", "suitor 1 = 23");
        Bounds.still(maid + "h11;", "suitor 0 = 1", "suitor 1 = 1");
        Bounds.still(maid + "h23;", "suitor 0 = 1", "suitor 1 = 13");
        Bounds.still(maid + "h13;s0;", "suitor 1 = -4");
        // The same, so that the one hour is midnight.
        String night = "w00000;w68012;";
        Bounds.still(night + "h23;", "suitor 0 = 1", "suitor 1 = 1");
        Bounds.still(night + "h00;", "suitor 0 = 0", "suitor 1 = 1");
        Bounds.still(night + "h01;", "suitor 0 = 1", "suitor 1 = 23");
        Bounds.still(night + "h12;", "suitor 0 = 1", "suitor 1 = 12");
        Bounds.says("Terms II", "DAYS: an hour at which he addresses none is no other WINDOW");
        Bounds.still("w11012;w10000;", "suitor 0 = 0", "suitor 1 = -4");
        Bounds.still("w11012;w11000;", "suitor 0 = 0", "suitor 1 = 10");
        Bounds.still("w11012;w11000;h06;", "suitor 0 = -4", "suitor 1 = -4");
        Bounds.still("w11012;w11000;h22;", "suitor 0 = 1", "suitor 1 = 12");
        Bounds.still("w11012;w11000;h02;", "suitor 0 = 1", "suitor 1 = 8");
    }

    private static void twins() {
        Bounds.says("Promise 26", "TWINS: how many (what 0), the first (1; -4). -1.");
        wrongWhat("w15012;w15012;", "twins");
        Bounds.still("", "twins 0 = 0", "twins 1 = -4");
        Bounds.still("w05012;", "twins 0 = 0", "twins 1 = -4");
        Bounds.still("w05012;w06012;", "twins 0 = 0", "twins 1 = -4");
        Bounds.still("w05012;w05312;", "twins 0 = 1", "twins 1 = 1");
        Bounds.still(Bounds.times(8, "w05012;"), "twins 0 = 28", "twins 1 = 1");
        Bounds.still("w01012;w02012;w03012;w04012;w05012;w06012;w10000;w29323;", "twins 0 = 1", "twins 1 = 67");
        Bounds.still("w10000;w02012;w03012;w04012;w05012;w06012;w07012;w29323;", "twins 0 = 1", "twins 1 = 7");
        Bounds.still("w10000;w02012;w02012;w04012;w05012;w06012;w07012;w29323;", "twins 0 = 2", "twins 1 = 7");
        Bounds.says("Terms II", "TWINS: .. SHINE and MOVE alike at all hours");
        Bounds.still("w63023;w29000;", "twins 0 = 0");
        Bounds.still("w63000;w29000;", "twins 0 = 0");
        Bounds.still("w63000;w69300;", "twins 0 = 1");
        Bounds.still("w39000;w30112;", "twins 0 = 1");
        Bounds.still("w09000;w09001;", "twins 0 = 0");
        Bounds.still("w70000;w70012;", "twins 0 = 0");
        Bounds.still("w00012;w50012;", "twins 0 = 0");
        Bounds.says("Terms I", "STOPPED ones neither SHINE nor MOVE: so they are alike");
        Bounds.still("w09000;w70001;s0;s1;", "twins 0 = 1", "twins 1 = 1");
        Bounds.still("w09000;w20001;s0;", "twins 0 = 1", "twins 1 = 1");
        Bounds.still("w09000;w09000;s0;", "twins 0 = 0", "twins 1 = -4");
    }

    public static void main(String[] args) {
        looks();
        mostMoving();
        taken();
        bestHour();
        game();
        suitor();
        twins();
        Bounds.end();
    }
}
