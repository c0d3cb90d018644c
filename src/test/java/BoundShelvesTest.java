/** Boundary cases of promises 34 to 43: the image, what is told, shelves. */
public final class BoundShelvesTest {
    private static final String MOST = "2147483647";
    private static final String LEAST = "-2147483648";
    private static final String NO_SHELF = "IllegalArgumentException";
    private static final String NO_PLACE = "IllegalStateException";
    /** A shelf of each: nothing on 0, a KIND on 1, ROWS of each SORT on 2, 3 and 4, an empty one on 5. */
    private static final String SHELVES = "w05012; / keep 1 1 3 4 / told 2 0 : 1 2 3 / told 3 1 : 4 5 6 / told 4 2 : 7 8 9 / row 5 1 0";

    private static void image() {
        Bounds.says("Promise 34", "THE IMAGE is taken: YEAR");
        Bounds.run("", "image = 0", "years 99 = 0", "image = 99");
        Bounds.run(Bounds.times(10, "y99;") + "y09;", "image = 999", "restore = 999");
        Bounds.says("Promise 35", "THE IMAGE is RESTORED: YEAR. -3 there is none.");
        Bounds.still("", "restore = -3");
        Bounds.still(SHELVES + " / y05; / stops 0", "restore = -3");
        Bounds.still("w05012;n105;h07;r2;y03;s0; / image", "restore = 3");
        Bounds.run("image / y07;", "restore = 0", "count 2 = 0", "restore = 0");
        Bounds.says("Terms III", "THE IMAGE: all that there is, but SHELVES (and THE IMAGE); RESTORED all is as it was then");
        String house = "w05012;w79323;s1;n105;n320;h07;r2;y03;p001;";
        Bounds.alike(house + " / image / w10000;s0;s1;n000;n119;n201;n319;h08;r9;y09;p009; / restore", house + " / image");
        Bounds.alike("image / " + house + " / restore", "image");
        Bounds.alike(house + " / image / " + Bounds.times(6, "w10000;") + " / restore", house + " / image");
        Bounds.alike(house + " / image / restore / h08; / restore", house + " / image");
        Bounds.alike(house + " / image / h08; / image / h09; / restore", house + "h08; / image");
        Bounds.run(Bounds.times(8, "w05012;") + " / image", "restore = 0", "stops 7 = 1", "restore = 0", "window 7 4 = 0");
        Bounds.run("image / " + Bounds.times(8, "w05012;") + "s7; / restore / keep 0 1 0 3", "count 0 = 0", "count 5 = 0",
                "builds 0 0 0 = 0", "window 0 1 = 3", "window 1 0 = -1");
        Bounds.says("Said once more", "when THE IMAGE is RESTORED, SHELVES stay as they are");
        Bounds.alike("image / " + SHELVES + " / restore", "image / " + SHELVES.substring("w05012; / ".length()));
        Bounds.alike("keep 1 1 2 2 / row 6 0 3 / image / keep 1 0 0 0 / row 6 2 1 / restore", "row 6 2 1 / image");
        Bounds.says("Promise 35", "-3 there is none: a refused call before makes none");
        Bounds.run("", "restore = -3", "restore = -3", "image = 0", "restore = 0");
    }

    private static void count() {
        Bounds.says("Promise 36", "0 WINDOWS, 1 HOUR, 2 YEAR, 3 OWED, 4 RATE, 5 STOPPED ones (bits), 6 all NEED, "
                + "7 LIGHT of all ROOMS at HOUR; -1 for others");
        Bounds.still("w05012;w06312;w09012;s2;n001;n320;h15;r2;y01;", "count -1 = -1", "count 0 = 3", "count 1 = 15", "count 2 = 1",
                "count 3 = 30", "count 4 = 2", "count 5 = 4", "count 6 = 21", "count 7 = 11", "count 8 = -1", "count " + MOST + " = -1",
                "count " + LEAST + " = -1");
        Bounds.still("", "count 6 = 0", "count 7 = 0", "count 5 = 0");
        Bounds.still("n020;n120;n220;n320;", "count 6 = 80");
        Bounds.still(Bounds.times(4, "w09012;") + Bounds.times(4, "w09312;"), "count 7 = 96", "count 0 = 8");
        Bounds.still(Bounds.times(8, "w09023;") + "s0;s1;s2;s3;s4;s5;s6;s7;h00;", "count 7 = 0", "count 5 = 255");
        Bounds.still("w05023;h01;", "count 7 = 8");
        Bounds.still("w05023;h02;", "count 7 = 5");
    }

    private static void keep() {
        Bounds.says("Promise 37", "SHELF d gets: .. a KIND of WINDOW of KIND k with a FIGURE: 0. -1.");
        Bounds.run(SHELVES, "keep 0 1 0 0 = 0", "toss 0 = -15", "cost 0 = 5", "keep 0 1 7 9 = 0", "cost 0 = 3", "keep 7 1 4 9 = 0",
                "toss 7 = 228", "keep 2 1 1 9 = 0", "toss 2 = 109", "put 2 0 0 = -12");
        Bounds.still(SHELVES, "keep -1 1 0 0 = -1", "keep 8 1 0 0 = -1", "keep 1 -1 0 0 = -1", "keep 1 2 0 0 = -1", "keep 1 1 -1 0 = -1",
                "keep 1 1 8 0 = -1", "keep 1 1 0 -1 = -1", "keep 1 1 0 10 = -1", "keep 2 1 0 10 = -1", "keep 0 1 8 0 = -1",
                "keep " + MOST + " 1 0 0 = -1", "keep " + LEAST + " 0 0 0 = -1", "keep 1 " + MOST + " 0 0 = -1",
                "keep 1 1 " + LEAST + " 0 = -1", "keep 1 1 0 " + MOST + " = -1");
        Bounds.says("Promise 37", "what = 0 nothing (the others do not matter)");
        for (int d = 0; d < 8; d++) {
            Bounds.run(SHELVES, "keep " + d + " 0 " + LEAST + " " + MOST + " = 0", "cost " + d + " = -11", "put " + d + " 0 0 = -11");
        }
        Bounds.still(SHELVES, "keep 0 0 8 10 = 0", "keep 0 0 0 0 = 0", "keep 8 0 0 0 = -1", "keep -1 0 0 0 = -1");
    }

    private static void row() {
        Bounds.says("Promise 38", "SHELF d gets a ROW of a SORT: 0. -1 (n above 100); -14.");
        Bounds.still(SHELVES, "row -1 0 0 = -1", "row 8 0 0 = -1", "row 2 -1 0 = -1", "row 2 3 0 = -1", "row 2 0 101 = -1",
                "row 2 0 " + MOST + " = -1", "row 2 0 -1 = -14", "row 2 2 " + LEAST + " = -14", "row 0 0 -1 = -14", "row 1 1 -1 = -14",
                "row " + MOST + " 0 0 = -1", "row " + LEAST + " 0 0 = -1", "row 2 " + MOST + " 0 = -1", "row 2 " + LEAST + " 0 = -1");
        Bounds.says("REFUSALS", "of several the first one as they are told at the call: row -1, -14");
        Bounds.still(SHELVES, "row 8 0 -1 = -1", "row -1 0 -1 = -1", "row 2 3 -1 = -1", "row 2 -1 -1 = -1", "row 8 0 101 = -1");
        Bounds.says("Terms III", "A ROW has a SORT (0 .. 2) and 0 .. 100 elements, 0 at first");
        for (int d = 0; d < 8; d += 7) {
            for (int sort = 0; sort < 3; sort++) {
                String made = "row " + d + " " + sort + " ";
                Bounds.run(SHELVES, made + "100 = 0", "element " + d + " 0 = 0", "element " + d + " 99 = 0",
                        "element " + d + " 100 = " + NO_PLACE, "put " + d + " 99 1 = 0", "element " + d + " 99 = 1",
                        made + "100 = 0", "element " + d + " 99 = 0", made + "99 = 0", "element " + d + " 98 = 0",
                        "element " + d + " 99 = " + NO_PLACE, "put " + d + " 99 0 = -13", made + "1 = 0", "put " + d + " 0 5 = 0",
                        "put " + d + " 1 5 = -13", made + "0 = 0", "put " + d + " 0 5 = -13", "element " + d + " 0 = " + NO_PLACE,
                        made + "1 = 0", "element " + d + " 0 = 0");
            }
        }
        Bounds.run(SHELVES, "row 1 0 2 = 0", "cost 1 = -12", "element 1 1 = 0");
    }

    private static void put() {
        Bounds.says("Promise 39", "Element i of the ROW becomes v: 0. -1, -11, -12, -13.");
        Bounds.still(SHELVES, "put -1 0 1 = -1", "put 8 0 1 = -1", "put 0 0 1 = -11", "put 1 0 1 = -12", "put 2 -1 1 = -13", "put 2 3 1 = -13",
                "put 5 0 1 = -13", "put 5 -1 1 = -13", "put " + MOST + " 0 1 = -1", "put " + LEAST + " 0 1 = -1", "put 2 " + MOST + " 1 = -13",
                "put 2 " + LEAST + " 1 = -13", "put 2 100 1 = -13");
        Bounds.says("REFUSALS", "of several the first one as they are told at the call: put -1, -11, -12, -13");
        Bounds.still(SHELVES, "put 8 -1 1 = -1", "put 0 -1 1 = -11", "put 1 -1 1 = -12", "put 1 100 1 = -12");
        Bounds.says("Terms III", "what is put in keeps its lowest bits");
        Bounds.run(SHELVES, "put 2 0 127 = 0", "element 2 0 = 127", "put 2 2 128 = 0", "element 2 2 = -128", "put 2 0 -128 = 0",
                "element 2 0 = -128", "put 2 0 -129 = 0", "element 2 0 = 127", "put 2 0 255 = 0", "element 2 0 = -1", "put 2 0 256 = 0",
                "element 2 0 = 0", "put 2 0 " + MOST + " = 0", "element 2 0 = -1", "put 2 0 " + LEAST + " = 0", "element 2 0 = 0",
                "element 2 1 = 2");
        Bounds.run(SHELVES, "put 3 0 32767 = 0", "element 3 0 = 32767", "put 3 2 32768 = 0", "element 3 2 = -32768", "put 3 0 -32768 = 0",
                "element 3 0 = -32768", "put 3 0 -32769 = 0", "element 3 0 = 32767", "put 3 0 65535 = 0", "element 3 0 = -1",
                "put 3 0 65536 = 0", "element 3 0 = 0", "put 3 0 " + MOST + " = 0", "element 3 0 = -1", "put 3 0 " + LEAST + " = 0",
                "element 3 0 = 0", "element 3 1 = 5");
        Bounds.run(SHELVES, "put 4 0 " + MOST + " = 0", "element 4 0 = " + MOST, "put 4 2 " + LEAST + " = 0", "element 4 2 = " + LEAST,
                "element 4 1 = 8");
    }

    private static void element() {
        Bounds.says("Promise 40", "Element i of the ROW. IllegalArgumentException: no such SHELF; "
                + "IllegalStateException: no ROW, no such place.");
        Bounds.still(SHELVES, "element 2 0 = 1", "element 2 2 = 3", "element 4 2 = 9");
        Bounds.still(SHELVES, "element -1 0 = " + NO_SHELF, "element 8 0 = " + NO_SHELF, "element " + MOST + " 0 = " + NO_SHELF,
                "element " + LEAST + " 0 = " + NO_SHELF, "element 8 -1 = " + NO_SHELF, "element 0 0 = " + NO_PLACE,
                "element 7 0 = " + NO_PLACE, "element 1 0 = " + NO_PLACE, "element 2 -1 = " + NO_PLACE, "element 2 3 = " + NO_PLACE,
                "element 5 0 = " + NO_PLACE, "element 2 " + MOST + " = " + NO_PLACE, "element 2 " + LEAST + " = " + NO_PLACE,
                "element 0 -1 = " + NO_PLACE, "element 2 100 = " + NO_PLACE);
    }

    private static void copy() {
        Bounds.says("Promise 41", "n elements of the ROW in SHELF d from i on come to that in SHELF e from j on: n");
        String two = "told 0 2 : 1 2 3 4 5 / told 7 2 : 0 0 0 / told 1 1 : 6 6 / keep 2 1 0 5 / row 4 2 0";
        Bounds.alike(two + " / copy 0 0 7 0 3", "told 0 2 : 1 2 3 4 5 / told 7 2 : 1 2 3 / told 1 1 : 6 6 / keep 2 1 0 5 / row 4 2 0");
        Bounds.alike(two + " / copy 0 4 7 2 1", "told 0 2 : 1 2 3 4 5 / told 7 2 : 0 0 5 / told 1 1 : 6 6 / keep 2 1 0 5 / row 4 2 0");
        Bounds.run(two, "copy 0 0 7 0 3 = 3", "copy 0 2 7 0 3 = 3", "element 7 0 = 3", "element 7 2 = 5", "copy 7 2 0 0 1 = 1", "element 0 0 = 5",
                "element 0 1 = 2");
        Bounds.says("Promise 41", "0 elements are none, up to the end of either ROW");
        Bounds.still(two, "copy 0 0 7 0 0 = 0", "copy 0 5 7 3 0 = 0", "copy 4 0 7 3 0 = 0", "copy 4 0 4 0 0 = 0", "copy 0 0 4 0 0 = 0");
        Bounds.says("Promise 41", "-13 (n below 0, too): a place that isn't there (Terms III)");
        Bounds.still(two, "copy 0 0 7 0 4 = -13", "copy 0 3 7 0 3 = -13", "copy 0 0 7 1 3 = -13", "copy 0 6 7 0 0 = -13", "copy 0 0 7 4 0 = -13",
                "copy 0 -1 7 0 1 = -13", "copy 0 0 7 -1 1 = -13", "copy 0 0 7 0 -1 = -13", "copy 0 0 4 0 1 = -13", "copy 4 0 0 0 1 = -13",
                "copy 4 1 4 0 0 = -13", "copy 0 -1 7 0 0 = -13", "copy 0 0 7 -1 0 = -13", "copy 0 3 7 1 -1 = -13",
                "copy 0 " + MOST + " 7 0 1 = -13", "copy 0 0 7 " + MOST + " 1 = -13", "copy 0 1 7 1 " + MOST + " = -13",
                "copy 0 " + MOST + " 7 " + MOST + " " + MOST + " = -13", "copy 0 " + LEAST + " 7 0 1 = -13", "copy 0 0 7 " + LEAST + " 1 = -13",
                "copy 0 0 7 0 " + LEAST + " = -13", "copy 0 " + LEAST + " 7 " + LEAST + " " + LEAST + " = -13", "copy 0 0 7 0 6 = -13");
        Bounds.says("Promise 41", "-1, -11 (either), -12 (no ROWS of one SORT)");
        Bounds.still(two, "copy -1 0 7 0 1 = -1", "copy 8 0 7 0 1 = -1", "copy 0 0 -1 0 1 = -1", "copy 0 0 8 0 1 = -1", "copy 3 0 7 0 1 = -11",
                "copy 0 0 3 0 1 = -11", "copy 3 0 3 0 1 = -11", "copy 2 0 7 0 1 = -12", "copy 0 0 2 0 1 = -12", "copy 2 0 2 0 1 = -12",
                "copy 1 0 7 0 1 = -12", "copy 0 0 1 0 1 = -12", "copy 1 0 4 0 0 = -12", "copy " + MOST + " 0 7 0 1 = -1",
                "copy 0 0 " + LEAST + " 0 1 = -1");
        Bounds.still("row 0 0 3 / keep 1 1 0 5 / row 2 0 3 / keep 2 1 0 5", "copy 0 0 1 0 1 = -12", "copy 1 0 0 0 1 = -12",
                "copy 0 0 2 0 1 = -12", "copy 2 0 0 0 1 = -12", "copy 2 0 0 0 0 = -12");
        Bounds.says("REFUSALS", "of several the first one as they are told at the call: copy -1, -11, -12, -13");
        Bounds.still(two, "copy 8 0 3 0 1 = -1", "copy 3 0 8 0 1 = -1", "copy 2 0 8 0 -1 = -1", "copy 2 0 3 0 1 = -11", "copy 3 0 2 0 1 = -11",
                "copy 3 -1 1 0 -1 = -11", "copy 1 9 7 0 -1 = -12", "copy 2 9 7 0 -1 = -12", "copy 0 0 2 -1 -1 = -12");
        Bounds.says("Promise 41", "from a ROW to the same, one over the other");
        Bounds.alike("told 0 0 : 1 2 3 4 5 / copy 0 0 0 1 4", "told 0 0 : 1 1 2 3 4");
        Bounds.alike("told 0 0 : 1 2 3 4 5 / copy 0 1 0 0 4", "told 0 0 : 2 3 4 5 5");
        Bounds.alike("told 0 0 : 1 2 3 4 5 / copy 0 0 0 0 5", "told 0 0 : 1 2 3 4 5");
        Bounds.says("Promise 41", "all 100 elements");
        Bounds.run("row 0 1 100 / put 0 0 7 / put 0 99 -32768 / row 1 1 100", "copy 0 0 1 0 100 = 100", "element 1 0 = 7", "element 1 99 = -32768",
                "copy 0 0 1 0 101 = -13", "copy 0 1 1 0 100 = -13", "copy 0 99 1 0 1 = 1", "element 1 0 = -32768", "copy 0 100 1 100 0 = 0",
                "copy 0 0 1 99 1 = 1", "element 1 99 = 7", "element 1 98 = 0");
    }

    private static void costAndToss() {
        int[][] costs = {{5, 5, 1, 6, 10, 7, 4, 3}, {5, 6, 1, 7, 12, 7, 5, 3}, {5, 14, 1, 15, 28, 7, 13, 3}};
        int[][] failures = {{-15, -15, -15, -15, -15, -15, -15, -15}, {1, 101, -15, 101, 212, 1, 101, -15},
            {9, 109, -15, 109, 228, 9, 109, -15}};
        int[] figures = {0, 1, 9};
        for (int i = 0; i < figures.length; i++) {
            for (int kind = 0; kind < 8; kind++) {
                String held = "keep 7 1 " + kind + " " + figures[i];
                Bounds.says("Promise 42", "COST of the one on SHELF d: FIGURE 0 and 9, halves cut");
                Bounds.still(held, "cost 7 = " + costs[i][kind]);
                Bounds.says("Promise 43", "-15: BLIND ones, SUITORS, and any with FIGURE 0, have none");
                Bounds.still(held, "toss 7 = " + failures[i][kind]);
            }
        }
        Bounds.says("Promise 42", "-1, -11, -12 (a ROW)");
        Bounds.still(SHELVES, "cost -1 = -1", "cost 8 = -1", "cost 0 = -11", "cost 2 = -12", "cost 5 = -12", "cost 1 = 10",
                "cost " + MOST + " = -1", "cost " + LEAST + " = -1");
        Bounds.says("Promise 43", "-1, -11, -12 (a ROW)");
        Bounds.still(SHELVES, "toss -1 = -1", "toss 8 = -1", "toss 0 = -11", "toss 2 = -12", "toss 5 = -12", "toss 1 = 104",
                "toss " + MOST + " = -1", "toss " + LEAST + " = -1");
    }

    public static void main(String[] args) {
        image();
        count();
        keep();
        row();
        put();
        element();
        copy();
        costAndToss();
        Bounds.end();
    }
}
