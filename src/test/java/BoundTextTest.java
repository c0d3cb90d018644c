/** Boundary cases of THE TEXT of a HOUSE: promise 2, and what the Terms say of it. */
public final class BoundTextTest {
    /** A STATEMENT of each letter that can be done in a new house; "p000" as nothing is OWED. */
    private static final String[] STATEMENTS = {"w79323;", "n320;", "h23;", "r9;", "y99;", "p000;"};

    /** The elements of a ROW of bytes that tell a text. */
    private static String bytes(String text) {
        StringBuilder elements = new StringBuilder();
        for (int i = 0; i < text.length(); i++) {
            elements.append(' ').append((int) text.charAt(i));
        }
        return elements.toString();
    }

    /** A setup with the text on shelf 0, then house(0); nothing has changed behind it. */
    private static void refused(String setup, String text, int answer) {
        String told = "told 0 0 :" + bytes(text);
        Bounds.still(setup.isEmpty() ? told : setup + " / " + told, "house 0 = " + answer);
    }

    private static void taken(String setup, String text, int statements) {
        String told = "told 0 0 :" + bytes(text);
        Bounds.run(setup.isEmpty() ? told : setup + " / " + told, "house 0 = " + statements);
    }

    private static void shelves() {
        Bounds.says("Promise 2", "The text in SHELF d: .. -1, -11, -12 (no ROW of bytes)");
        String setup = "w05012; / keep 1 1 0 5 / told 2 1 : 104 48 48 59 / told 3 2 : 104 48 48 59";
        Bounds.still(setup, "house -1 = -1", "house 8 = -1", "house 0 = -11", "house 7 = -11", "house 1 = -12",
                "house 2 = -12", "house 3 = -12");
        Bounds.still("row 0 1 0", "house 0 = -12");
        String h00 = bytes("h00;");
        Bounds.run("told 0 0 :" + h00, "house 0 = 1", "count 1 = 0");
        Bounds.run("told 7 0 :" + h00, "house 7 = 1", "count 1 = 0");
        Bounds.says("Said once more", "The ROW of a text .. stay there");
        Bounds.run("told 7 0 :" + h00, "house 7 = 1", "element 7 0 = 104", "element 7 3 = 59", "set 0 5 = 0",
                "house 7 = 1", "count 1 = 0");
    }

    private static void howMany() {
        Bounds.says("Terms I", "STATEMENTS, each with \";\" behind, one at least");
        refused("", "", -1000);
        refused("w05012;n005;", "", -1000);
        Bounds.still("row 0 0 4", "house 0 = -1000");
        for (String statement : STATEMENTS) {
            taken("", statement, 1);
            refused("", statement.substring(0, statement.length() - 1), -1000 - (statement.length() - 1));
        }
        Bounds.says("Promise 2", "how many STATEMENTS");
        taken("", Bounds.times(33, "r1;"), 33);
        taken("", Bounds.times(25, "h00;"), 25);
        taken("", "w00000;" + Bounds.times(31, "s0;"), 32);
        Bounds.says("Promise 2", "over the end of a ROW of 100 bytes");
        refused("", Bounds.times(33, "r1;") + "r", -1100);
        refused("", Bounds.times(24, "h00;") + "n020", -1100);
        refused("", Bounds.times(24, "h00;") + "h000", -1099);
        refused("", Bounds.times(33, "r1;") + ";", -1099);
    }

    private static void lacking() {
        Bounds.says("Terms I", "FAULT: kind 1 .. (the end, if something lacks): -1000 less the place");
        for (String statement : STATEMENTS) {
            for (int length = 0; length < statement.length(); length++) {
                refused("", statement.substring(0, length), -1000 - length);
                if (length > 0) {
                    refused("", "h00;" + statement.substring(0, length), -1004 - length);
                }
            }
        }
        refused("w00000;", "s", -1001);
        refused("w00000;", "s0", -1002);
    }

    private static void wrongBytes() {
        Bounds.says("Terms I", "FAULT: kind 1 the place of the first byte with which no HOUSE can go on");
        // Beside the digits stand 47 and 58; beside ";" stand 58 and 60; -59 has the lowest bits of a byte 197.
        int[] noDigits = {47, 58, 59, 0, 32, 119, 45, 127, 128, 255, 176, 185};
        int[] noEnds = {58, 60, 48, 57, 0, 32, 119, 187, 255};
        int[] noLetters = {48, 59, 0, 87, 32, 118, 120, 109, 111, 103, 105, 113, 115 + 128, 116, 122, 255};
        for (String statement : STATEMENTS) {
            int end = statement.length() - 1;
            for (int place = 1; place < end; place++) {
                for (int sign : noDigits) {
                    refused("", with(statement, place, sign), -1000 - place);
                }
            }
            for (int sign : noEnds) {
                refused("", with(statement, end, sign), -1000 - end);
            }
            for (int sign : noLetters) {
                refused("", with(statement, 0, sign), -1000);
                refused("", "r1;" + with(statement, 0, sign), -1003);
                refused("", statement + (char) sign, -1000 - statement.length());
            }
            refused("", statement + ";", -1000 - statement.length());
        }
        Bounds.says("Said once more", "numbers in THE TEXT have just as many digits as told");
        refused("", "w7932;", -1005);
        refused("", "w793230;", -1006);
        refused("", "n32;", -1003);
        refused("", "n3020;", -1004);
        refused("w00000;", "s;", -1001);
        refused("w00000;", "s00;", -1002);
        refused("", "h1;", -1002);
        refused("", "h001;", -1003);
        refused("", "r;", -1001);
        refused("", "r01;", -1002);
        refused("", "y1;", -1002);
        refused("", "y001;", -1003);
        refused("", "p00;", -1003);
        refused("", "p0000;", -1004);
    }

    private static String with(String text, int place, int sign) {
        return text.substring(0, place) + (char) sign + text.substring(place + 1);
    }

    private static void outOfRange() {
        Bounds.says("Terms I", "FAULT: .. else kind 2 .. (a number out of range, no such one, more paid than OWED, "
                + "YEAR above 999, no room): -2000 less the place");
        String[] just = {"w00000;", "w79323;", "w09019;", "n000;", "n020;", "n320;", "h00;", "h23;", "h19;", "r1;", "r9;", "y01;",
            "y99;", "p000;"};
        String[] beyond = {"w80000;", "w99323;", "w00400;", "w79923;", "w00024;", "w00030;", "w00099;", "n021;", "n399;",
            "n400;", "n920;", "h24;", "h30;", "h99;", "r0;", "y00;", "p001;", "p999;", "s0;", "s9;"};
        for (String text : just) {
            taken("", text, 1);
        }
        for (String text : beyond) {
            refused("", text, -2000);
            refused("", "h05;" + text, -2004);
        }
        Bounds.says("Terms I", "\"s\" a WINDOW (a digit): STOPPED, or not any more");
        String eight = Bounds.times(8, "w00000;");
        taken(eight, "s0;s7;", 2);
        refused(eight, "s8;", -2000);
        refused(eight, "s9;", -2000);
        taken("w00000;", "s0;", 1);
        refused("w00000;", "s1;", -2000);
        Bounds.run(eight + "s0;", "s7;s0;s7;s7; = 4", "count 5 = 128");
        Bounds.says("Terms I", "\"w\" .. a WINDOW more: no room (8 at most)");
        taken(Bounds.times(7, "w00000;"), "w00000;", 1);
        refused(Bounds.times(7, "w00000;"), "w00000;w00000;", -2007);
        refused(eight, "w00000;", -2000);
        taken("", eight, 8);
        refused("", eight + "w00000;", -2056);
    }

    private static void yearsAndPayments() {
        Bounds.says("Terms I", "\"y\" YEARS (2 digits, 1 .. 99): so many go by; YEAR above 999");
        String nine = Bounds.times(9, "y99;");
        taken(nine, "y99;y09;", 2);
        refused(nine, "y99;y10;", -2004);
        refused(nine + "y99;y09;", "y01;", -2000);
        taken(nine + "y99;y08;", "y01;", 1);
        refused(nine + "y99;y08;", "y02;", -2000);
        refused(nine + "y99;y08;", "y01;y01;", -2004);
        taken("", nine + "y99;y09;", 11);
        Bounds.run("w03000;", "y01; = 1", "count 2 = 1", "count 3 = 5", "y99; = 1", "count 2 = 100", "count 3 = 500");
        Bounds.says("Terms I", "\"p\" how much (3 digits): so much of OWED is paid (no more than that)");
        taken("w03000;y03;", "p015;", 1);
        taken("w03000;y03;", "p014;", 1);
        refused("w03000;y03;", "p016;", -2000);
        refused("w03000;y03;", "p015;p001;", -2005);
        refused("", "p001;", -2000);
        taken("w03000;y99;y99;y99;", "p999;", 1);
        Bounds.run("w03000;y03;", "p000; = 1", "count 3 = 15", "p010;p005;p000; = 3", "count 3 = 0");
        Bounds.says("Terms I", "99999 at most, by \"y\" too");
        Bounds.run("", "w09000;w09000;w09000;w06000;r9;y99;y99;y73; = 8", "count 3 = 99999", "y01; = 1", "count 3 = 99999");
    }

    private static void oneBehindTheOther() {
        Bounds.says("Terms I", "kind 1 .. else kind 2");
        refused("", "n400;x", -1005);
        refused("", "n400;h0", -1007);
        refused("", "s0;s0;;", -1006);
        refused("", "r0;n400;h24;p", -1013);
        Bounds.says("Said once more", "STATEMENTS are tried one behind the other, each on what those ahead of it made, "
                + "and the first that can't be done so is told (kind 2)");
        refused("", "s0;w00000;", -2000);
        taken("", "w00000;s0;", 2);
        refused("", "w00000;s1;w00000;", -2007);
        taken("", "w00000;w00000;s1;", 3);
        refused("", "p005;w03000;y01;", -2000);
        taken("", "w03000;y01;p005;", 3);
        refused("", "w03000;y01;p006;", -2011);
        taken("", "w03000;r2;y01;p010;", 4);
        refused("", "w03000;r2;s0;y01;p001;", -2017);
        taken("", "w30000;h00;y01;p002;", 4);
        refused("", "w30000;h23;y01;p002;", -2015);
        refused("", "r0;h24;", -2000);
        refused("", "r1;h24;r0;", -2003);
        Bounds.says("Terms I", "Without FAULT all of it comes, with one nothing");
        refused("w05012;n105;h07;r2;y03;s0; / image", "w14323;n007;n120;h08;r9;y02;p001;s0;s1;s2;", -2039);
        refused("w05012;n105;h07;r2;y03;", "w14323;n007;n120;h08;r9;y02;p001;s0;s1;x", -1039);
        Bounds.run("w05012;", "w14323;h05;r0; = -2011", "r2; = 1", "count 0 = 1", "count 1 = 12", "count 4 = 2");
        Bounds.run("w05012;", "w14323;h05;x = -1011", "r2; = 1", "count 0 = 1", "count 1 = 12");
        Bounds.run("w05012;", "stops 0 = 1", "set 0 3 = 12", "needs 2 4 = 0", "r2; = 1", "count 5 = 1", "count 1 = 3", "count 6 = 4");
        Bounds.run("w05012;w05012;", "stop 0 = 3", "s1; = 1", "count 5 = 2", "hidden = 2", "loophole = 2", "h03; = 1", "count 5 = 2",
                "window 0 0 = 0", "window 1 0 = 0");
        Bounds.alike("w05012;n105;h07;r2;y03;s0;", "keep 0 1 0 5 / builds 0 0 12 / keep 0 0 0 0 / needs 1 5 / set 0 7 / set 1 2"
                + " / years 3 / stops 0");
        Bounds.alike("w79323;y02;p021;n320;n319;", "keep 0 1 7 9 / builds 0 3 23 / years 2 / pays 21 / needs 3 19 / keep 0 0 0 0");
    }

    public static void main(String[] args) {
        shelves();
        howMany();
        lacking();
        wrongBytes();
        outOfRange();
        yearsAndPayments();
        oneBehindTheOther();
        Bounds.end();
    }
}
