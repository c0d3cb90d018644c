/** Boundary cases of promises 11 to 19: light. */
public final class BoundLightTest {
    private static final String MOST = "2147483647";
    private static final String LEAST = "-2147483648";
    private static final String LONG_REFUSED = "1000000001";

    // Two WINDOWS of 9: 12 to 2 APART, 9 to 6, 4 beyond; only one hour is beyond both (light 8, else 13 or more).
    private static final String DIM_AT_23 = "w09006;w09016;";
    private static final String DIM_AT_0 = "w09007;w09017;";
    private static final String DIM_AT_12 = "w09019;w09005;";
    // Two WINDOWS of 5: only one hour is near to both (light 16, else 13 or less).
    private static final String CLEAR_AT_23 = "w05021;w05001;";
    private static final String CLEAR_AT_0 = "w05022;w05002;";
    private static final int ALL_HOURS = 16777215;

    private static void light() {
        Bounds.says("Promise 11", "LIGHT. -1.");
        Bounds.still("w05023;w05300;s0;", "light 0 23 = 0", "light 3 0 = 8", "light 3 2 = 8", "light 3 3 = 5", "light 3 22 = 8",
                "light 3 21 = 5", "light 3 23 = 8", "light 3 6 = 5", "light 3 7 = 2");
        Bounds.still("w05012;", "light -1 0 = -1", "light 4 0 = -1", "light 0 -1 = -1", "light 0 24 = -1", "light 4 24 = -1",
                "light " + MOST + " 0 = -1", "light 0 " + MOST + " = -1", "light " + LEAST + " 0 = -1", "light 0 " + LEAST + " = -1");
        Bounds.says("Promise 11", "LIGHT, of none and of the most WINDOWS");
        Bounds.still("", "light 0 0 = 0", "light 3 23 = 0");
        Bounds.still(Bounds.times(8, "w09212;"), "light 2 12 = 96", "light 2 9 = 72", "light 2 0 = 32", "light 1 12 = 0");
    }

    private static void allDue() {
        Bounds.says("Promise 12", "ALL DUE (without what MOVES)");
        Bounds.still("", "allDue = 0");
        Bounds.still("r9;", "allDue = 0");
        Bounds.still("w29000;w05000;s1;r9;", "allDue = 0");
        Bounds.still(Bounds.times(8, "w79000;") + "r9;h00;", "allDue = 1440");
        Bounds.still("w39000;h00;", "allDue = 10");
        Bounds.still("w39000;h01;r2;", "allDue = 20");
    }

    private static void stop() {
        Bounds.says("Promise 13", "STOP: bits (what 0; -4), DUE (1; -4). -1.");
        Bounds.still("", "stop 0 = 0", "stop 1 = 0", "stop -1 = -1", "stop 2 = -1", "stop " + MOST + " = -1", "stop " + LEAST + " = -1");
        Bounds.still("n001;", "stop 0 = -4", "stop 1 = -4", "stop 2 = -1");
        // Of the house as it is now, though no text was read.
        Bounds.still("keep 0 1 0 5 / builds 0 0 12", "stop 0 = 1", "stop 1 = 0");
        Bounds.still("keep 0 1 0 5 / builds 0 0 12 / needs 0 8", "stop 0 = 0", "stop 1 = 7");
        Bounds.still("w09012;n301;", "stop 0 = -4", "stop 1 = -4");
        Bounds.says("Terms II", "STOP: .. so that at HOUR each ROOM has its NEED");
        Bounds.still("w05012;n008;", "stop 0 = 0", "stop 1 = 7");
        Bounds.still("w05012;n009;", "stop 0 = -4", "stop 1 = -4");
        Bounds.still("w05012;n001;", "stop 0 = 0", "stop 1 = 7");
        Bounds.still("w05012;n000;", "stop 0 = 1", "stop 1 = 0");
        Bounds.still("w05012;n005;h15;", "stop 0 = 0");
        Bounds.still("w05012;n006;h15;", "stop 0 = -4");
        Bounds.still("w05012;w05312;n008;n308;", "stop 0 = 0", "stop 1 = 14");
        Bounds.still("w05012;w05312;n008;n309;", "stop 0 = -4");
        Bounds.still("w05012;w05312;n308;", "stop 0 = 1");
        Bounds.says("Terms II", "STOP: the set of WINDOWS to be STOPPED (bits; all others not)");
        Bounds.still("w03012;n006;s0;", "stop 0 = 0", "stop 1 = 5");
        Bounds.still("w03012;w06012;n009;s0;s1;r9;", "stop 0 = 1", "stop 1 = 72");
        Bounds.still(Bounds.times(8, "w05012;"), "stop 0 = 255", "stop 1 = 0");
        Bounds.still(Bounds.times(8, "w05012;") + "n020;", "stop 0 = 31", "stop 1 = 21");
        Bounds.still(Bounds.times(7, "w25012;") + "w10012;", "stop 0 = 128", "stop 1 = 0");
        Bounds.says("Terms II", "STOP: .. ALL DUE is least, of several the least");
        Bounds.still("w25012;", "stop 0 = 0", "stop 1 = 0");
        Bounds.still(Bounds.times(8, "w25012;"), "stop 0 = 0", "stop 1 = 0");
        Bounds.still("w03012;w03012;w03012;n012;", "stop 0 = 1", "stop 1 = 10");
        Bounds.still("w03012;w03012;w03012;n006;", "stop 0 = 3", "stop 1 = 5");
        // One of 9 is due 11, two of 3 are due 10; light 12 both ways.
        Bounds.still("w09012;w03012;w03012;n012;", "stop 0 = 1", "stop 1 = 10");
        Bounds.still("w08012;w03012;w03012;n011;", "stop 0 = 1", "stop 1 = 10");
        Bounds.still("w03012;w03012;w08012;n011;", "stop 0 = 3", "stop 1 = 10");
    }

    private static void dark() {
        Bounds.says("Promise 14", "DARK (bits): hours (bits 0 .. 23) at which some ROOM lacks NEED");
        Bounds.still("", "dark = 0");
        Bounds.still("n001;", "dark = " + ALL_HOURS);
        Bounds.still("n301;", "dark = " + ALL_HOURS);
        Bounds.still(DIM_AT_23 + "n008;", "dark = 0");
        Bounds.still(DIM_AT_23 + "n009;", "dark = " + (1 << 23));
        Bounds.still(DIM_AT_23 + "n013;", "dark = " + (1 << 23));
        Bounds.still(DIM_AT_0 + "n009;", "dark = 1");
        Bounds.still(CLEAR_AT_23 + "n016;", "dark = " + (ALL_HOURS - (1 << 23)));
        Bounds.still(CLEAR_AT_0 + "n016;", "dark = " + (ALL_HOURS - 1));
        Bounds.still(CLEAR_AT_0 + "n017;", "dark = " + ALL_HOURS);
        Bounds.still(CLEAR_AT_0 + "n016;s0;", "dark = " + ALL_HOURS);
        Bounds.still(CLEAR_AT_0 + "n016;n101;", "dark = " + ALL_HOURS);
        Bounds.still("w05000;w05012;w05112;n008;n108;s1;", "dark = " + ALL_HOURS);
    }

    private static void darkest() {
        Bounds.says("Promise 15", "DARKEST: the hour with the least LIGHT of all ROOMS together, of several the least");
        Bounds.still("", "darkest = 0");
        Bounds.still("w29012;w19000;", "darkest = 0");
        Bounds.still(DIM_AT_23, "darkest = 23");
        Bounds.still(DIM_AT_0, "darkest = 0");
        Bounds.still("w09008;w09018;", "darkest = 1");
        Bounds.still(DIM_AT_12, "darkest = 12");
        Bounds.still("w09006;w09316;", "darkest = 23");
        Bounds.still(DIM_AT_23 + "s0;", "darkest = 0");
        Bounds.still(DIM_AT_23 + "s1;", "darkest = 13");
        Bounds.still("w09000;", "darkest = 7");
        Bounds.still("w09023;", "darkest = 6");
        Bounds.still("w09012;", "darkest = 0");
        Bounds.still("w09017;", "darkest = 0");
        Bounds.still("w09018;", "darkest = 1");
    }

    private static void bright() {
        Bounds.says("Promise 16", "BRIGHT: from (what 0), how long (1). -1.");
        Bounds.still("", "bright -1 = -1", "bright 2 = -1", "bright " + MOST + " = -1", "bright " + LEAST + " = -1");
        Bounds.says("Terms II", "how long (24 all; 0, from 0, none)");
        Bounds.still("", "bright 0 = 0", "bright 1 = 24");
        Bounds.still(DIM_AT_23 + "n008;", "bright 0 = 0", "bright 1 = 24");
        Bounds.still("n001;", "bright 0 = 0", "bright 1 = 0");
        Bounds.still(CLEAR_AT_23 + "n017;", "bright 0 = 0", "bright 1 = 0");
        Bounds.says("Terms II", "BRIGHT: from which hour on the longest stretch (going round) is not DARK");
        Bounds.still(DIM_AT_23 + "n009;", "bright 0 = 0", "bright 1 = 23");
        Bounds.still(DIM_AT_0 + "n009;", "bright 0 = 1", "bright 1 = 23");
        Bounds.still(DIM_AT_12 + "n009;", "bright 0 = 13", "bright 1 = 23");
        Bounds.still(CLEAR_AT_23 + "n016;", "bright 0 = 23", "bright 1 = 1");
        Bounds.still(CLEAR_AT_0 + "n016;", "bright 0 = 0", "bright 1 = 1");
        Bounds.still("w05022;w05001;n016;", "bright 0 = 23", "bright 1 = 2");
        Bounds.still("w05000;n008;", "bright 0 = 22", "bright 1 = 5");
        Bounds.still("w05000;n005;", "bright 0 = 18", "bright 1 = 13");
        Bounds.still("w05002;n008;", "bright 0 = 0", "bright 1 = 5");
        Bounds.still("w05021;n008;", "bright 0 = 19", "bright 1 = 5");
        Bounds.says("Terms II", "BRIGHT: .. of several the least");
        Bounds.still("w02000;w02012;n006;", "bright 0 = 10", "bright 1 = 5");
        Bounds.still("w02002;w02014;n006;", "bright 0 = 0", "bright 1 = 5");
        // WINDOWS of 0 shine near alone: 10 to 14 and, one hour longer, 22 to 3.
        Bounds.still("w00000;w00001;w00012;n003;", "bright 0 = 22", "bright 1 = 6");
        Bounds.still("w00000;w00001;w00012;w00013;n003;", "bright 0 = 10", "bright 1 = 6");
        Bounds.still("w00002;w00012;w00013;n003;", "bright 0 = 10", "bright 1 = 6");
    }

    private static void mirrors() {
        Bounds.says("Promise 17", "MIRRORS (bits); -4");
        Bounds.still("", "mirrors = 0");
        Bounds.still("n001;", "mirrors = -4");
        Bounds.still("w29012;n001;", "mirrors = -4");
        Bounds.still("w05012;n008;", "mirrors = 0");
        Bounds.still("w05012;n009;", "mirrors = 1");
        Bounds.still("w05012;n016;", "mirrors = 1");
        Bounds.still("w05012;n017;", "mirrors = -4");
        Bounds.still("w05012;n009;s0;", "mirrors = -4");
        Bounds.still("w05312;n316;", "mirrors = 8");
        Bounds.still("w05012;w05112;w05212;w05312;n016;n116;n216;n316;", "mirrors = 15");
        Bounds.still("w05012;w05112;w05212;w05312;n016;n116;n216;n317;", "mirrors = -4");
        Bounds.still("w05012;w05112;w05212;w05312;n008;n116;n208;n309;", "mirrors = 10");
        Bounds.says("Terms II", "MIRRORS: .. so that none lacks NEED at HOUR");
        Bounds.still("w05012;n010;h15;", "mirrors = 1");
        Bounds.still("w05012;n011;h15;", "mirrors = -4");
        Bounds.still("w05012;n005;h15;", "mirrors = 0");
        Bounds.still("w05000;n016;h22;", "mirrors = 1");
        Bounds.still("w05000;n016;h21;", "mirrors = -4");
    }

    private static void mean() {
        Bounds.says("Promise 18", "MEAN; part 0 above, 1 below the line. Refused as told: -1.");
        String[] refused = {"mean -1 0", "mean 4 0", "mean 0 -1", "mean 0 2", "mean 4 2", "mean " + MOST + " 0",
            "mean " + LEAST + " 1", "mean 0 " + MOST, "mean 0 " + LEAST};
        for (String step : refused) {
            Bounds.still("w05012;", step + " = " + LONG_REFUSED);
        }
        Bounds.says("Terms II", "MEAN: LIGHT of a ROOM by all 24 hours in the mean: a fraction in least terms");
        Bounds.still("", "mean 0 0 = 0", "mean 0 1 = 1", "mean 3 0 = 0", "mean 3 1 = 1");
        Bounds.still("w09012;s0;", "mean 0 0 = 0", "mean 0 1 = 1");
        // FIGURE F: 5 hours of F and 3, 8 of F, 11 of half F.
        int[] above = {5, 7, 13, 65, 89, 17, 21, 139, 163, 22};
        int[] below = {8, 6, 6, 24, 24, 4, 4, 24, 24, 3};
        for (int figure = 0; figure < 10; figure++) {
            Bounds.still("w0" + figure + "323;", "mean 3 0 = " + above[figure], "mean 3 1 = " + below[figure], "mean 2 0 = 0");
        }
        Bounds.still("w09000;w09012;w09023;", "mean 0 0 = 22", "mean 0 1 = 1");
        Bounds.still(Bounds.times(8, "w09112;"), "mean 1 0 = 176", "mean 1 1 = 3");
    }

    private static void hidden() {
        Bounds.says("Promise 19", "HIDDEN: the most WINDOWS that can be STOPPED in all (all others not)");
        Bounds.still("", "hidden = 0");
        Bounds.still("n020;", "hidden = 0");
        Bounds.still("keep 0 1 0 5 / builds 0 0 12", "hidden = 1");
        Bounds.still("keep 0 1 0 5 / builds 0 0 12 / needs 0 8", "hidden = 0");
        Bounds.still(Bounds.times(8, "w09012;"), "hidden = 8");
        Bounds.still(Bounds.times(8, "w09012;") + "s0;s7;", "hidden = 8");
        // Behind midnight eight of 4 give 32: five of them are needed.
        Bounds.still(Bounds.times(8, "w09012;") + "n020;", "hidden = 3");
        Bounds.still("w03012;w03012;n006;", "hidden = 0");
        Bounds.still("w03012;w03012;n006;s0;", "hidden = 1");
        Bounds.still("w03012;w03012;n001;", "hidden = 1");
        Bounds.still("w03012;w03012;n001;s0;s1;", "hidden = 2");
        Bounds.says("Terms II", "HIDDEN: .. so that no ROOM lacks at any hour at which it does not now");
        Bounds.still(CLEAR_AT_23 + "n016;", "hidden = 0");
        Bounds.still(CLEAR_AT_23 + "n017;", "hidden = 2");
        Bounds.still(CLEAR_AT_0 + "n016;", "hidden = 0");
        Bounds.still(CLEAR_AT_0 + "n017;", "hidden = 2");
        Bounds.still(CLEAR_AT_0 + "n016;s1;", "hidden = 2");
        Bounds.still("w05321;w05301;n316;", "hidden = 0");
        Bounds.still("w05321;w05301;n316;n001;w05000;", "hidden = 0");
        Bounds.still("w05321;w05301;n317;w05000;n001;", "hidden = 2");
    }

    public static void main(String[] args) {
        light();
        allDue();
        stop();
        dark();
        darkest();
        bright();
        mirrors();
        mean();
        hidden();
        Bounds.end();
    }
}
