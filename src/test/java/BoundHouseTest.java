/** Boundary cases of promises 1 and 3 to 10: the house as told. */
public final class BoundHouseTest {
    private static final String MOST = "2147483647";
    private static final String LEAST = "-2147483648";

    private static void newObject() {
        Bounds.says("Promise 1", "No WINDOWS");
        Bounds.still("", "count 0 = 0", "window 0 0 = -1", "at 0 0 0 = -1", "stops 0 = -1", "bestHour 0 = -1",
                "count 1 = 12", "count 2 = 0", "count 3 = 0", "count 4 = 1", "count 5 = 0", "count 6 = 0", "count 7 = 0",
                "light 0 12 = 0", "allDue = 0", "restore = -3");
        Bounds.says("Terms III", "SHELVES 0 .. 7 each hold nothing (at first)");
        for (int d = 0; d < 8; d++) {
            Bounds.still("", "cost " + d + " = -11", "put " + d + " 0 0 = -11", "house " + d + " = -11");
        }
    }

    private static void windows() {
        Bounds.says("Promise 3", "Of a WINDOW: KIND (what 0), FIGURE (1), ROOM (2), FACING (3), STOPPED (4: 1, 0), "
                + "DUE as if not STOPPED (5). -1.");
        String two = "w00000;w79323;s1;r9;";
        Bounds.still(two, "window 0 0 = 0", "window 0 1 = 0", "window 0 2 = 0", "window 0 3 = 0", "window 0 4 = 0",
                "window 0 5 = 2", "window 1 0 = 7", "window 1 1 = 9", "window 1 2 = 3", "window 1 3 = 23", "window 1 4 = 1",
                "window 1 5 = 20");
        Bounds.still(two, "window -1 0 = -1", "window 2 0 = -1", "window 0 -1 = -1", "window 0 6 = -1", "window 1 6 = -1",
                "window 2 6 = -1", "window " + MOST + " 0 = -1", "window " + LEAST + " 0 = -1", "window 0 " + MOST + " = -1",
                "window 0 " + LEAST + " = -1");
    }

    private static void atAnHour() {
        Bounds.says("Promise 4", "Of a WINDOW at an hour (0, if STOPPED): SHINES (what 0), MOVES (1: 1, 0), SEEMS (2). -1.");
        String two = "w76000;w35023;s0;";
        Bounds.still(two, "at 0 0 0 = 0", "at 0 0 1 = 0", "at 0 0 2 = 0", "at 1 0 0 = 0", "at 1 0 1 = 1", "at 1 0 2 = 7",
                "at 1 23 1 = 0", "at 1 23 2 = 5");
        Bounds.still(two, "at -1 0 0 = -1", "at 2 0 0 = -1", "at 1 -1 0 = -1", "at 1 24 0 = -1", "at 1 0 -1 = -1",
                "at 1 0 3 = -1", "at 1 " + MOST + " 0 = -1", "at 1 " + LEAST + " 1 = -1");
        Bounds.says("Promise 4", "0, if STOPPED: but no such one, hour or what is refused all the same");
        Bounds.still(two, "at 0 24 0 = -1", "at 0 -1 0 = -1", "at 0 0 3 = -1", "at 0 0 -1 = -1");
        Bounds.run(two, "stops 0 = 0", "at 0 0 0 = 5", "at 0 0 1 = 1", "at 0 0 2 = 8", "at 0 7 1 = 1", "at 0 6 1 = 0",
                "at 0 23 1 = 0");
    }

    private static void builds() {
        Bounds.says("Promise 5", "The one on SHELF d is a WINDOW more: its number. -1, -11, -12 (a ROW), -2.");
        String setup = "w05012; / keep 0 1 3 6 / keep 7 1 5 2 / row 2 0 3";
        Bounds.run(setup, "builds 0 0 0 = 1", "builds 7 3 23 = 2", "window 1 0 = 3", "window 1 1 = 6", "window 1 2 = 0",
                "window 1 3 = 0", "window 2 0 = 5", "window 2 1 = 2", "window 2 2 = 3", "window 2 3 = 23", "window 2 4 = 0",
                "count 0 = 3", "cost 0 = 12", "cost 7 = 7");
        Bounds.still(setup, "builds -1 0 0 = -1", "builds 8 0 0 = -1", "builds 0 -1 0 = -1", "builds 0 4 0 = -1",
                "builds 0 0 -1 = -1", "builds 0 0 24 = -1", "builds 1 0 0 = -11", "builds 2 0 0 = -12",
                "builds 0 " + MOST + " 0 = -1", "builds 0 0 " + LEAST + " = -1", "builds " + LEAST + " 0 0 = -1");
        Bounds.says("REFUSALS", "of several the first one as they are told at the call: builds -1, -11, -12, -2");
        String full = setup + " / " + Bounds.times(7, "w05012;");
        Bounds.still(full, "builds 0 0 0 = -2", "builds 2 0 0 = -12", "builds 1 0 0 = -11", "builds 1 4 0 = -1",
                "builds 2 0 24 = -1", "builds 0 4 0 = -1");
        Bounds.says("Promise 5", "-2: with seven there is room for one more");
        Bounds.run(setup + " / " + Bounds.times(6, "w05012;"), "builds 0 0 0 = 7", "builds 0 0 0 = -2", "count 0 = 8");
    }

    private static void stops() {
        Bounds.says("Promise 6", "STOPPED, or not any more: 1, 0. -1.");
        String eight = Bounds.times(8, "w05012;");
        Bounds.run(eight, "stops 0 = 1", "count 5 = 1", "stops 7 = 1", "count 5 = 129", "stops 0 = 0", "count 5 = 128",
                "stops 7 = 0", "count 5 = 0");
        Bounds.run(eight, "stops 0 = 1", "stops 1 = 1", "stops 2 = 1", "stops 3 = 1", "stops 4 = 1", "stops 5 = 1",
                "stops 6 = 1", "stops 7 = 1", "count 5 = 255", "light 0 12 = 0");
        Bounds.still(eight, "stops -1 = -1", "stops 8 = -1", "stops 32 = -1", "stops " + MOST + " = -1", "stops " + LEAST + " = -1");
        Bounds.still("w05012;s0;", "stops 1 = -1");
        Bounds.still("", "stops 0 = -1");
    }

    private static void needs() {
        Bounds.says("Promise 7", "NEED of a ROOM becomes v: what it was. -1.");
        Bounds.run("", "needs 0 20 = 0", "needs 3 1 = 0", "needs 0 0 = 20", "needs 3 20 = 1", "count 6 = 20", "needs 1 20 = 0",
                "needs 2 20 = 0", "needs 0 20 = 0", "count 6 = 80");
        Bounds.still("n019;n320;", "needs 0 -1 = -1", "needs 0 21 = -1", "needs -1 0 = -1", "needs 4 0 = -1",
                "needs 4 21 = -1", "needs 3 " + MOST + " = -1", "needs 3 " + LEAST + " = -1", "needs " + LEAST + " 3 = -1");
    }

    private static void sets() {
        Bounds.says("Promise 8", "HOUR (what 0), RATE (1) becomes v: what it was. -1.");
        Bounds.run("", "set 0 0 = 12", "set 0 23 = 0", "set 0 12 = 23", "set 1 9 = 1", "set 1 1 = 9", "set 1 2 = 1",
                "count 1 = 12", "count 4 = 2");
        Bounds.still("h05;r3;", "set 0 -1 = -1", "set 0 24 = -1", "set 1 0 = -1", "set 1 10 = -1", "set 1 -1 = -1",
                "set -1 1 = -1", "set 2 1 = -1", "set 0 " + MOST + " = -1", "set 1 " + LEAST + " = -1");
    }

    private static void years() {
        Bounds.says("Promise 9", "n YEARS (1 .. 99) go by: OWED. -1, -3 YEAR above 999.");
        Bounds.run("w03000;", "years 1 = 5", "count 2 = 1", "years 99 = 500", "count 2 = 100");
        Bounds.still("w03000;y05;", "years 0 = -1", "years -1 = -1", "years 100 = -1", "years " + MOST + " = -1",
                "years " + LEAST + " = -1");
        String nine = "w03000;" + Bounds.times(9, "y99;");
        Bounds.run(nine + "y09;", "count 2 = 900", "years 99 = 4995", "count 2 = 999");
        Bounds.still(nine + "y10;", "years 99 = -3");
        Bounds.run(nine + "y10;", "years 98 = 4995", "count 2 = 999");
        Bounds.says("Said once more", "years() is refused (-3), if YEAR and n together are above 999; none of them goes then");
        Bounds.still(nine + "y99;y09;", "years 1 = -3", "years 99 = -3");
        Bounds.still(nine + "y99;y08;", "years 2 = -3");
        Bounds.run(nine + "y99;y08;", "years 2 = -3", "count 2 = 998", "count 3 = 4990", "years 1 = 4995");
        Bounds.says("REFUSALS", "of several the first one as they are told at the call: years -1, -3");
        Bounds.still(nine + "y99;y09;", "years 100 = -1", "years 0 = -1");
    }

    private static void pays() {
        Bounds.says("Promise 10", "So much (0 .. 999) is paid: OWED. -1, -3 more than OWED.");
        Bounds.run("w03000;y02;", "pays 0 = 10", "pays 9 = 1", "pays 1 = 0", "pays 0 = 0", "pays 1 = -3", "count 3 = 0");
        Bounds.run("w03000;y99;y99;y02;", "count 3 = 1000", "pays 999 = 1", "pays 1 = 0");
        Bounds.still("w03000;y02;", "pays 11 = -3", "pays 999 = -3", "pays 1000 = -1", "pays -1 = -1", "pays " + MOST + " = -1",
                "pays " + LEAST + " = -1");
        Bounds.run("w03000;y02;", "pays 10 = 0");
        Bounds.still("w03000;y99;y99;y02;", "pays 1000 = -1", "pays -1 = -1");
        Bounds.says("REFUSALS", "of several the first one as they are told at the call: pays -1, -3");
        Bounds.still("", "pays 1000 = -1", "pays 999 = -3", "pays 1 = -3", "pays 0 = 0");
    }

    public static void main(String[] args) {
        newObject();
        windows();
        atAnHour();
        builds();
        stops();
        needs();
        sets();
        years();
        pays();
        Bounds.end();
    }
}
