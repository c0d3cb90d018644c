/** Boundary cases of promises 27 to 33: dues, told hours, told years. */
public final class BoundDuesTest {
    private static final String MOST = "2147483647";
    private static final String LEAST = "-2147483648";
    private static final String LONG_REFUSED = "1000000001";
    /** 369 a YEAR, 99630 OWED: a YEAR more makes just 99999. */
    private static final String DEAR = "w09000;w09000;w09000;w06000;r9;y99;y99;y72;";
    private static final String YEAR_999 = Bounds.times(10, "y99;") + "y09;";

    private static void whatWasRefused() {
        Bounds.says("Promise 27", "WHAT WAS IT by the ROW in SHELF d: KINDS (what 0, bits), how many (1). "
                + "-1, -11, -12 (no ROW), -13 more than 24.");
        String setup = "keep 1 1 0 5 / row 2 0 24 / row 3 1 25 / row 4 2 100 / row 5 2 0";
        Bounds.still(setup, "whatWas -1 0 0 0 = -1", "whatWas 8 0 0 0 = -1", "whatWas 2 -1 0 0 = -1", "whatWas 2 10 0 0 = -1",
                "whatWas 2 0 -1 0 = -1", "whatWas 2 0 24 0 = -1", "whatWas 2 0 0 -1 = -1", "whatWas 2 0 0 2 = -1",
                "whatWas 2 " + MOST + " 0 0 = -1", "whatWas 2 0 " + LEAST + " 0 = -1", "whatWas " + MOST + " 0 0 0 = -1",
                "whatWas 0 0 0 0 = -11", "whatWas 7 9 23 1 = -11", "whatWas 1 0 0 0 = -12", "whatWas 3 0 0 0 = -13",
                "whatWas 4 9 23 1 = -13");
        Bounds.still(setup, "whatWas 5 0 0 0 = 255", "whatWas 5 9 23 1 = 8", "whatWas 2 1 0 0 = 94", "whatWas 2 1 0 1 = 5");
        Bounds.says("REFUSALS", "of several the first one as they are told at the call: whatWas -1, -11, -12, -13");
        Bounds.still(setup, "whatWas 3 10 0 0 = -1", "whatWas 3 0 24 0 = -1", "whatWas 3 0 0 2 = -1", "whatWas 1 10 0 0 = -1",
                "whatWas 0 0 -1 0 = -1");
    }

    private static void whatWas() {
        Bounds.says("Terms II", "WHAT WAS IT: a ROW tells LIGHT of one WINDOW at hours 0, 1, .. (24 at most ..)");
        String day = " 12 12 12 9 9 9 9 4 4 4 4 4 4 4 4 4 4 4 9 9 9 9 12 12";
        String half = " 6 6 6 4 4 4 4 2 2 2 2 2 2 2 2 2 2 2 4 4 4 4 6 6";
        String more = " 7 7 7 5 5 5 5 3 3 3 3 3 3 3 3 3 3 3 5 5 5 5 7 7";
        Bounds.still("told 0 0 :" + day, "whatWas 0 9 0 0 = 1", "whatWas 0 9 0 1 = 1", "whatWas 0 9 1 0 = 0", "whatWas 0 9 23 0 = 0",
                "whatWas 0 8 0 0 = 0", "whatWas 0 9 23 1 = 0");
        Bounds.still("told 0 1 :" + half, "whatWas 0 9 0 0 = 32");
        Bounds.still("told 0 2 :" + more, "whatWas 0 9 0 0 = 128");
        Bounds.still("told 0 0 :" + day.substring(0, day.length() - 2) + "11", "whatWas 0 9 0 0 = 0");
        Bounds.still("told 0 0 : 11" + day.substring(3), "whatWas 0 9 0 0 = 0");
        Bounds.still("told 0 0 : 0", "whatWas 0 0 12 0 = 127", "whatWas 0 0 12 1 = 7", "whatWas 0 1 12 0 = 127",
                "whatWas 0 2 12 0 = 126");
        Bounds.still("told 0 0 : 1", "whatWas 0 0 12 0 = 128", "whatWas 0 2 12 0 = 129", "whatWas 0 2 12 1 = 2");
        // Over midnight: FACING 23, hour 1 is near, hour 2 is not.
        Bounds.still("told 0 0 : 3 3 0", "whatWas 0 0 23 0 = 1", "whatWas 0 0 22 0 = 0");
        Bounds.says("Terms II", "WHAT WAS IT: .. the least number of the SORT is skipped");
        String[] least = {"-128", "-32768", LEAST};
        for (int sort = 0; sort < 3; sort++) {
            String told = "told 0 " + sort + " : ";
            Bounds.still(told + least[sort], "whatWas 0 9 0 0 = 255", "whatWas 0 9 0 1 = 8");
            Bounds.still(told + Bounds.times(24, least[sort] + " "), "whatWas 0 9 0 0 = 255");
            Bounds.still(told + Bounds.times(24, least[sort] + " ") + "0", "whatWas 0 9 0 0 = -13");
            Bounds.still(told + Bounds.times(23, least[sort] + " ") + "12", "whatWas 0 9 0 0 = 1", "whatWas 0 9 20 0 = 0");
            Bounds.still(told + "-127", "whatWas 0 9 0 0 = 0", "whatWas 0 9 0 1 = 0");
        }
        Bounds.still("told 0 0 : 128", "whatWas 0 9 0 0 = 255");
        Bounds.still("told 0 1 : 32768", "whatWas 0 9 0 0 = 255");
        Bounds.still("told 0 1 : -128", "whatWas 0 9 0 0 = 0");
        Bounds.still("told 0 2 : -128", "whatWas 0 9 0 0 = 0");
        Bounds.still("told 0 2 : -32768", "whatWas 0 9 0 0 = 0");
        Bounds.still("told 0 1 : -32767", "whatWas 0 9 0 0 = 0");
        Bounds.still("told 0 2 : -2147483647", "whatWas 0 9 0 0 = 0");
    }

    private static void paidOff() {
        Bounds.says("Promise 28", "PAID OFF; -4. -1.");
        Bounds.still("w03000;y02;", "paidOff -1 = -1", "paidOff 1000 = -1", "paidOff " + MOST + " = -1", "paidOff " + LEAST + " = -1");
        Bounds.still("", "paidOff -1 = -1", "paidOff 1000 = -1");
        Bounds.says("Terms II", "PAID OFF: .. 0, if nothing is OWED now");
        Bounds.still("", "paidOff 0 = 0", "paidOff 999 = 0");
        Bounds.still("w09000;", "paidOff 0 = 0", "paidOff 1 = 0", "paidOff 999 = 0");
        Bounds.still("w03000;y01;p004;", "paidOff 6 = 1", "paidOff 5 = -4");
        Bounds.still("w03000;y01;p005;", "paidOff 5 = 0");
        Bounds.says("Terms II", "PAID OFF: p (0 .. 999; no more than OWED) are paid each YEAR behind its DUES");
        Bounds.still("w03000;y02;", "paidOff 0 = -4", "paidOff 5 = -4", "paidOff 6 = 10", "paidOff 14 = 2", "paidOff 15 = 1",
                "paidOff 16 = 1", "paidOff 999 = 1");
        Bounds.still("w03000;y02;s0;", "paidOff 0 = -4", "paidOff 1 = 10", "paidOff 9 = 2", "paidOff 10 = 1");
        Bounds.says("Terms II", "PAID OFF: the first YEAR from now (0 .. 60) behind which nothing is OWED; -4");
        Bounds.still("w03000;y12;", "paidOff 6 = 60");
        Bounds.still("w03000;y13;p004;", "paidOff 6 = -4");
        Bounds.still("w03000;y13;p005;", "paidOff 6 = 60");
        Bounds.still("w04000;y10;s0;", "paidOff 1 = 60");
        Bounds.still("w04000;y10;s0;r9;h23;", "paidOff 1 = 60");
        Bounds.still(DEAR + "s0;s1;s2;s3;", "paidOff 999 = -4");
        Bounds.says("Terms II", "PAID OFF: .. (HOUR as it is; YEAR no matter)");
        Bounds.still("w30000;h12;y05;", "paidOff 3 = 10", "paidOff 2 = -4");
        Bounds.still("w30000;h12;y05;h13;", "paidOff 3 = 5", "paidOff 2 = 10", "paidOff 1 = -4");
        Bounds.still("w20000;" + YEAR_999 + "w30000;", "paidOff 0 = 0");
        Bounds.still("w10000;" + YEAR_999, "paidOff 999 = 2", "paidOff 18 = 59", "paidOff 17 = -4");
    }

    private static void rain() {
        Bounds.says("Promise 29", "RAIN; part likewise. Refused as told: -1.");
        String[] refused = {"1 8 4 0", "21 8 4 0", "0 0 0 0", "-1 0 0 0", "2 -1 0 0", "2 9 0 0", "2 8 -1 0", "2 8 9 0", "2 8 4 -1",
            "2 8 4 2", MOST + " 0 0 0", LEAST + " 0 0 0", "2 " + MOST + " 0 0", "2 0 " + LEAST + " 0", "2 0 0 " + MOST};
        for (String numbers : refused) {
            Bounds.still("", "rain " + numbers + " = " + LONG_REFUSED);
        }
        Bounds.says("Terms II", "RAIN: .. with odds 1 in t (2 .. 20): how likely in k (0 .. 8) or more of n hours (0 .. 8)");
        for (int t : new int[] {2, 3, 19, 20}) {
            long power = 1;
            for (int n = 0; n <= 8; n++) {
                Bounds.still("", "rain " + t + " " + n + " 0 0 = 1", "rain " + t + " " + n + " 0 1 = 1",
                        "rain " + t + " " + n + " " + n + " 0 = 1", "rain " + t + " " + n + " " + n + " 1 = " + power);
                for (int k = n + 1; k <= 8; k++) {
                    Bounds.still("", "rain " + t + " " + n + " " + k + " 0 = 0", "rain " + t + " " + n + " " + k + " 1 = 1");
                }
                power *= t;
            }
        }
        Bounds.still("", "rain 20 8 8 1 = 25600000000", "rain 20 8 1 0 = 8616436959", "rain 20 8 1 1 = 25600000000");
        Bounds.says("Terms II", "RAIN: .. a fraction in least terms");
        Bounds.still("", "rain 2 3 2 0 = 1", "rain 2 3 2 1 = 2", "rain 2 2 1 0 = 3", "rain 2 2 1 1 = 4", "rain 3 2 1 0 = 5",
                "rain 3 2 1 1 = 9", "rain 2 7 4 0 = 1", "rain 2 7 4 1 = 2", "rain 2 8 7 0 = 9", "rain 2 8 7 1 = 256",
                "rain 4 3 2 0 = 5", "rain 4 3 2 1 = 32");
    }

    private static void loophole() {
        Bounds.says("Promise 30", "LOOPHOLE; -4");
        Bounds.still("", "loophole = -4");
        Bounds.still(Bounds.times(8, "w29000;"), "loophole = -4");
        Bounds.still("w09000;w79000;s0;s1;", "loophole = -4");
        Bounds.says("Terms II", "LOOPHOLE: the WINDOW and the KIND (10 the WINDOW and the KIND)");
        Bounds.still("w10000;", "loophole = 2");
        Bounds.still("keep 0 1 0 5 / builds 0 0 12", "loophole = 2");
        Bounds.still("keep 0 1 0 5 / builds 0 0 12 / needs 0 8", "loophole = -4");
        Bounds.still(Bounds.times(7, "w29000;") + "w10000;", "loophole = 72");
        Bounds.still(Bounds.times(7, "w29000;") + "w79312;n308;", "loophole = 70");
        Bounds.says("Terms II", "LOOPHOLE: .. makes ALL DUE least, less than now; of several the least");
        Bounds.still("w10000;w10000;", "loophole = 2");
        Bounds.still("w29000;w10000;w40000;", "loophole = 12");
        Bounds.still("w13000;w02000;w02000;", "loophole = 12");
        Bounds.still("w70000;n001;", "loophole = -4");
        Bounds.still("w70012;n001;", "loophole = 5");
        Bounds.still("w70000;n001;h23;", "loophole = 5");
        Bounds.still("w70012;n001;h00;", "loophole = -4");
        Bounds.still("w50012;n001;", "loophole = -4");
        Bounds.still("w30000;r9;", "loophole = 2");
        Bounds.says("Terms II", "LOOPHOLE: .. no ROOM lacking more at HOUR than now");
        Bounds.still("w03012;n003;", "loophole = 5");
        Bounds.still("w03012;n004;", "loophole = -4");
        Bounds.still("w03012;n006;", "loophole = -4");
        Bounds.still("w03012;n020;", "loophole = -4");
        Bounds.still("w03012;n000;", "loophole = 2");
        Bounds.still("w03012;n003;h15;", "loophole = -4");
        Bounds.still("w03012;n001;h15;", "loophole = 5");
        Bounds.still("w75312;n304;", "loophole = 5");
        Bounds.still("w75312;n305;", "loophole = 0");
        Bounds.still("w75312;n320;", "loophole = 0");
        Bounds.still("w75312;n320;n001;", "loophole = 0");
        Bounds.still("w75312;n001;", "loophole = 2");
        Bounds.still("w05012;w10312;n008;n320;", "loophole = 12");
        Bounds.still("w05012;w05012;n012;", "loophole = 5");
        Bounds.still("w05012;w05012;n008;", "loophole = 2");
        Bounds.still("w05012;w05012;n009;s0;", "loophole = -4");
    }

    private static void forged() {
        Bounds.says("Promise 31", "FORGED by the ROW in SHELF d; -4. -1, -11, -12 (no ROW).");
        Bounds.still("keep 1 1 0 5 / row 7 0 1", "forged -1 = -1", "forged 8 = -1", "forged " + MOST + " = -1",
                "forged " + LEAST + " = -1", "forged 0 = -11", "forged 1 = -12", "forged 7 = -4");
        Bounds.says("Terms II", "FORGED: .. -4 by some hour all of it is so");
        for (int sort = 0; sort < 3; sort++) {
            Bounds.still("row 0 " + sort + " 0", "forged 0 = -4");
            Bounds.still("row 0 " + sort + " 100", "forged 0 = -4");
            Bounds.still("row 0 " + sort + " 100 / put 0 99 1", "forged 0 = 99");
            Bounds.still("row 0 " + sort + " 100 / put 0 0 1", "forged 0 = 0");
            Bounds.still("told 0 " + sort + " : 8 0 / " + Bounds.times(8, "w69023;"), "forged 0 = -4");
            Bounds.still("told 0 " + sort + " : 7 0 / " + Bounds.times(8, "w69023;"), "forged 0 = 0");
        }
        Bounds.still("told 0 0 : 0", "forged 0 = -4");
        Bounds.still("told 0 0 : -128", "forged 0 = 0");
        Bounds.still("told 0 1 : -32768", "forged 0 = 0");
        Bounds.still("told 0 2 : " + LEAST, "forged 0 = 0");
        Bounds.says("Terms II", "FORGED: how many MOVED at hours one behind the other (going round), from an hour that is not told");
        for (String facing : new String[] {"00", "01", "12", "22", "23"}) {
            String maid = " / w690" + facing + ";";
            Bounds.still("told 0 0 : 0 1 0" + maid, "forged 0 = -4");
            Bounds.still("told 0 0 : 1 " + Bounds.times(23, "0 ") + "1" + maid, "forged 0 = -4");
            Bounds.still("told 0 0 : 1 " + Bounds.times(22, "0 ") + "1" + maid, "forged 0 = 23");
            Bounds.still("told 0 0 : 1 " + Bounds.times(24, "0 ") + "1" + maid, "forged 0 = 24");
            Bounds.still("told 0 0 : " + Bounds.times(23, "0 ") + maid, "forged 0 = -4");
            Bounds.still("told 0 0 : " + Bounds.times(24, "0 ") + maid, "forged 0 = 23");
        }
        String midnight = " / w69023;w69023;w69000;";
        Bounds.still("told 0 0 : 0 2 1 0" + midnight, "forged 0 = -4");
        Bounds.still("told 0 0 : 2 1 " + Bounds.times(22, "0 ") + "2 1" + midnight, "forged 0 = -4");
        Bounds.still("told 0 0 : 1 " + Bounds.times(22, "0 ") + "2 1" + midnight, "forged 0 = -4");
        Bounds.still("told 0 0 : 0 1 2" + midnight, "forged 0 = 1");
        Bounds.still("told 0 0 : 1 2 0" + midnight, "forged 0 = 1");
        Bounds.says("Terms II", "FORGED: .. the first place that is not so, by the hour by which that is latest");
        Bounds.still("told 0 0 : 1 1 0 / w69000;", "forged 0 = 1");
        Bounds.still("told 0 0 : 2 / w69000;", "forged 0 = 0");
        Bounds.still("told 0 0 : 0 0 1 1 / w69000;", "forged 0 = 3");
        Bounds.still("told 0 0 : 1 0 / w69000;s0;", "forged 0 = 0");
        Bounds.still("told 0 0 : 1 0 1 1 / w39000;", "forged 0 = 3");
    }

    private static void judge() {
        Bounds.says("Promise 32", "JUDGED by the ROW in SHELF d; -4. -1, -11, -12.");
        Bounds.still("keep 1 1 0 5 / row 7 0 1", "judge -1 = -1", "judge 8 = -1", "judge " + MOST + " = -1", "judge " + LEAST + " = -1",
                "judge 0 = -11", "judge 1 = -12", "judge 7 = -4");
        Bounds.says("Terms II", "JUDGED: a ROW tells OWED behind 0, 1, .. YEARS from now: the first that is not so; -4");
        StringBuilder hundred = new StringBuilder();
        for (int y = 0; y < 100; y++) {
            hundred.append(' ').append(5 * y + 5);
        }
        String owing = " / w03000;y01;";
        for (int sort = 1; sort < 3; sort++) {
            Bounds.still("row 0 " + sort + " 0" + owing, "judge 0 = -4");
            Bounds.still("told 0 " + sort + " :" + hundred + owing, "judge 0 = -4");
            Bounds.still("told 0 " + sort + " :" + hundred + " / put 0 99 501" + owing, "judge 0 = 99");
            Bounds.still("told 0 " + sort + " :" + hundred + " / put 0 0 0" + owing, "judge 0 = 0");
            Bounds.still("told 0 " + sort + " :" + hundred + " / put 0 99 501 / put 0 98 0" + owing, "judge 0 = 98");
        }
        Bounds.still("told 0 0 : 5 10 15" + owing, "judge 0 = -4");
        Bounds.still("told 0 0 : 5 11 15" + owing, "judge 0 = 1");
        Bounds.still("told 0 0 : 125 -126" + " / w03000;y25;", "judge 0 = 1");
        Bounds.says("Terms II", "JUDGED: .. (the least number is skipped)");
        String[] least = {"-128", "-32768", LEAST};
        for (int sort = 0; sort < 3; sort++) {
            String told = "told 0 " + sort + " : ";
            Bounds.still(told + least[sort] + " " + least[sort] + owing, "judge 0 = -4");
            Bounds.still(told + least[sort] + " 10 " + least[sort] + " 20" + owing, "judge 0 = -4");
            Bounds.still(told + least[sort] + " 10 " + least[sort] + " 21" + owing, "judge 0 = 3");
            Bounds.still(told + "-127" + owing, "judge 0 = 0");
        }
        Bounds.still("told 0 1 : -128" + owing, "judge 0 = 0");
        Bounds.still("told 0 2 : -32768" + owing, "judge 0 = 0");
        Bounds.says("Terms I", "JUDGED by OWED: 99999 at most");
        Bounds.still("told 0 2 : 99630 99999 99999 / " + DEAR, "judge 0 = -4");
        Bounds.still("told 0 2 : 99630 99999 100368 / " + DEAR, "judge 0 = 2");
        Bounds.says("Terms II", "JUDGED: .. from now, whatever YEAR and by HOUR as it is");
        Bounds.still("told 0 1 : 0 2 4 / w20000;" + YEAR_999 + "w30000;", "judge 0 = -4");
        Bounds.still("told 0 1 : 0 1 2 / w30000;h23;", "judge 0 = -4");
        Bounds.still("told 0 1 : 0 1 2 / w30000;h00;", "judge 0 = 1");
    }

    /** How often (of 10 DRAWS below 24 each time) the hour is drawn, by longs alone. */
    private static int hits(int times, int seed, int hour) {
        long z = seed & 0xffffffffL;
        int hits = 0;
        for (int i = 0; i < 10 * times; i++) {
            z = (z * 1103515245L + 12345L) & 0xffffffffL;
            hits += (z % 2147483648L) / 65536L % 24L == hour ? 1 : 0;
        }
        return hits;
    }

    private static void lots() {
        Bounds.says("Promise 33", "YEARS: OWED more (what 0), in how many (1). -1.");
        Bounds.still("w03000;", "lots 0 1 0 = -1", "lots 21 1 0 = -1", "lots -1 1 0 = -1", "lots 1 1 -1 = -1", "lots 1 1 2 = -1",
                "lots 0 1 2 = -1", "lots " + MOST + " 0 0 = -1", "lots " + LEAST + " 0 1 = -1", "lots 1 0 " + MOST + " = -1");
        Bounds.still("", "lots 1 0 0 = 0", "lots 20 " + LEAST + " 0 = 0", "lots 20 " + MOST + " 1 = 0");
        Bounds.still("w03000;", "lots 1 7 0 = 50", "lots 20 7 0 = 1000", "lots 1 7 1 = 0", "lots 20 7 1 = 0");
        Bounds.says("Terms II", "YEARS with a seed z: n times (1 .. 20), each from now: 10 YEARS, HOUR each a DRAW below 24");
        int[] seeds = {0, 1, -1, 12345, Integer.MAX_VALUE, Integer.MIN_VALUE, -1103515245};
        for (int seed : seeds) {
            for (int times : new int[] {1, 2, 19, 20}) {
                for (int hour : new int[] {0, 11, 12, 23}) {
                    int hits = hits(times, seed, hour);
                    Bounds.still("w600" + (hour < 10 ? "0" : "") + hour + ";r3;",
                            "lots " + times + " " + seed + " 0 = " + 3 * (10 * times + hits), "lots " + times + " " + seed + " 1 = " + hits);
                }
            }
        }
        Bounds.says("Terms II", "YEARS: .. in how many YEARS something MOVED");
        int atMidnight = hits(20, 5, 0);
        Bounds.due("a seed by which it is drawn at all", atMidnight > 0 ? 1 : 0, 1);
        Bounds.still("w60000;w60000;", "lots 20 5 1 = " + atMidnight, "lots 20 5 0 = " + 2 * (200 + atMidnight));
        Bounds.still("w60000;w60000;s0;s1;", "lots 20 5 1 = 0", "lots 20 5 0 = 0");
        Bounds.still("w70000;", "lots 20 5 1 = 200", "lots 20 5 0 = 600");
        Bounds.says("Terms II", "YEARS: .. OWED more together, each from now; 99999 at most");
        Bounds.still(DEAR, "lots 1 3 0 = 369", "lots 20 3 0 = 7380");
        Bounds.still(DEAR + "y01;", "lots 20 3 0 = 0");
        Bounds.still("w20000;" + YEAR_999 + "w10000;", "lots 20 3 0 = 200");
    }

    public static void main(String[] args) {
        whatWasRefused();
        whatWas();
        paidOff();
        rain();
        loophole();
        forged();
        judge();
        lots();
        Bounds.end();
    }
}
