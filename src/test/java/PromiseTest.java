/** Each promise of ../shared/DOC.md by itself; what is due was worked out by hand. */
public final class PromiseTest {
    private static final int WINDOW = 0;
    private static final int PAINTED = 1;
    private static final int BLIND = 2;
    private static final int CAT = 3;
    private static final int CURTAIN = 4;
    private static final int LATTICE = 5;
    private static final int MAID = 6;
    private static final int SUITOR = 7;
    private static final long LONG_REFUSED = 1000000001L;

    private static int promise = 0;
    private static int wrong = 0;

    private static void due(String call, long got, long want) {
        if (got != want) {
            wrong++;
            System.out.println("promise " + promise + ": " + call + " answered " + got + ", due is " + want);
        }
    }

    private static BrickedUpAsBlind fresh(int ofPromise) {
        promise = ofPromise;
        return new BrickedUpAsBlind();
    }

    /** A new object to whose house a text came. */
    private static BrickedUpAsBlind house(int ofPromise, String text) {
        BrickedUpAsBlind x = fresh(ofPromise);
        due(text, read(x, text) > 0 ? 1 : 0, 1);
        return x;
    }

    private static int read(BrickedUpAsBlind x, String text) {
        x.row(7, 0, text.length());
        for (int i = 0; i < text.length(); i++) {
            x.put(7, i, text.charAt(i));
        }
        int answer = x.house(7);
        x.keep(7, 0, 0, 0);
        return answer;
    }

    private static void tell(BrickedUpAsBlind x, int d, int sort, int... elements) {
        x.row(d, sort, elements.length);
        for (int i = 0; i < elements.length; i++) {
            x.put(d, i, elements[i]);
        }
    }

    /** 0, or 1 for IllegalArgumentException and 2 for IllegalStateException. */
    private static int thrownBy(BrickedUpAsBlind x, int d, int i) {
        try {
            x.element(d, i);
            return 0;
        } catch (IllegalArgumentException e) {
            return 1;
        } catch (IllegalStateException e) {
            return 2;
        }
    }

    private static void newObject() {
        BrickedUpAsBlind x = fresh(1);
        int[] counts = {0, 12, 0, 0, 1, 0, 0, 0};
        for (int what = 0; what < counts.length; what++) {
            due("count " + what, x.count(what), counts[what]);
        }
        for (int d = 0; d < 8; d++) {
            due("cost " + d, x.cost(d), -11);
        }
        due("window 0", x.window(0, 0), -1);
        due("restore", x.restore(), -3);
        due("need", x.needs(3, 0), 0);
    }

    private static void houseFaults() {
        BrickedUpAsBlind x = fresh(2);
        String[] texts = {"", "x", "w", "w0", "w06012", "w06012x", "w0601;;", "w06012;;", "w06012;n", "h24;x",
            "h05;s", "p01;", "y1;", "n01;", "s;", "r;", "W06012;", "h 5;", "h05,", ";", "r1; ", "s/;", "s:;"};
        int[] places = {0, 0, 1, 2, 6, 6, 5, 7, 8, 4, 5, 3, 2, 3, 1, 1, 0, 1, 3, 0, 3, 1, 1};
        for (int i = 0; i < texts.length; i++) {
            due(texts[i], read(x, texts[i]), -1000 - places[i]);
        }
        tell(x, 0, 0, -1);
        due("a byte below 0", x.house(0), -1000);
        String[] wrongs = {"w80000;", "w00400;", "w00024;", "n400;", "n021;", "s0;", "h24;", "r0;", "y00;", "p001;"};
        for (String text : wrongs) {
            due(text, read(x, text), -2000);
        }
        due("a later one", read(x, "h05;r3;w06012;s1;"), -2014);
        due("HOUR as it was", x.count(1), 12);
        due("RATE as it was", x.count(4), 1);
        due("no WINDOW", x.count(0), 0);
        due("paid more", read(x, "w05012;y02;p015;"), -2011);
        due("YEAR as it was", x.count(2), 0);
        due("ninth", read(x, "w00000;w00000;w00000;w00000;w00000;w00000;w00000;w00000;w00000;"), -2056);
        due("YEAR 1000", read(x, "y99;y99;y99;y99;y99;y99;y99;y99;y99;y99;y10;"), -2040);
        due("no shelf", x.house(8), -1);
        due("no shelf", x.house(-1), -1);
        due("nothing", x.house(5), -11);
        x.keep(1, 1, 0, 0);
        due("a KIND", x.house(1), -12);
        x.row(1, 1, 3);
        due("shorts", x.house(1), -12);
        x.row(1, 2, 3);
        due("ints", x.house(1), -12);
    }

    private static void houseComes() {
        BrickedUpAsBlind x = fresh(2);
        due("all at once", read(x, "w05012;w31203;s1;s1;s0;n320;h08;r3;y02;p006;p000;"), 11);
        due("windows", x.count(0), 2);
        due("KIND", x.window(1, 0), CAT);
        due("FIGURE", x.window(1, 1), 1);
        due("ROOM", x.window(1, 2), 2);
        due("FACING", x.window(1, 3), 3);
        due("stopped", x.count(5), 1);
        due("need", x.needs(3, 0), 20);
        due("hour", x.count(1), 8);
        due("rate", x.count(4), 3);
        due("year", x.count(2), 2);
        // The CAT alone: 2 is due and 2 for moving at 8, three times, two years: 24, less 6.
        due("owed", x.count(3), 18);
        due("more", read(x, "y99;y99;y99;y99;y99;y99;y99;y99;y99;y99;y07;"), 11);
        due("year", x.count(2), 999);
        tell(x, 0, 0, 'h', '0', '9', ';');
        due("h09", x.house(0), 1);
        due("the text stays", x.element(0, 2), '9');
    }

    private static void windows() {
        BrickedUpAsBlind x = fresh(3);
        int[] dues = {6, 1, 0, 5, 1, 5, 1, 10};
        for (int kind = 0; kind < 8; kind++) {
            x.keep(0, 1, kind, 4);
            x.builds(0, kind % 4, kind + 3);
            int[] told = {kind, 4, kind % 4, kind + 3, 0, dues[kind]};
            for (int what = 0; what < told.length; what++) {
                due("window " + kind + " " + what, x.window(kind, what), told[what]);
            }
            x.stops(kind);
            due("stopped", x.window(kind, 4), 1);
            due("due when stopped", x.window(kind, 5), dues[kind]);
            due("next", x.window(kind + 1, 0), -1);
        }
        due("what 6", x.window(0, 6), -1);
        due("what -1", x.window(0, -1), -1);
        due("window -1", x.window(-1, 0), -1);
        BrickedUpAsBlind y = house(3, "w09000;w39000;w59000;w79000;w00000;w30000;w50000;w70000;");
        int[] more = {11, 10, 10, 20, 2, 1, 1, 2};
        for (int w = 0; w < 8; w++) {
            due("due of " + w, y.window(w, 5), more[w]);
        }
    }

    private static void shinesAt() {
        BrickedUpAsBlind x = house(4, "w05012;w15012;w25012;w35012;w45012;w55012;w65012;w75012;");
        int[] hours = {12, 10, 14, 9, 15, 6, 18, 5, 19, 0};
        int[] open = {8, 8, 8, 5, 5, 5, 5, 2, 2, 2};
        for (int i = 0; i < hours.length; i++) {
            int[] shine = {open[i], 0, 0, 0, 0, open[i] / 2, 0, open[i] / 2 + 1};
            for (int w = 0; w < 8; w++) {
                due("shine of " + w + " at " + hours[i], x.at(w, hours[i], 0), shine[w]);
            }
        }
        for (int w = 0; w < 8; w++) {
            x.stops(w);
            for (int what = 0; what < 3; what++) {
                due("stopped " + w, x.at(w, 12, what), 0);
            }
        }
        due("no window", x.at(8, 0, 0), -1);
        due("no window", x.at(-1, 0, 0), -1);
        due("hour 24", x.at(0, 24, 0), -1);
        due("hour -1", x.at(0, -1, 0), -1);
        due("what 3", x.at(0, 0, 3), -1);
        due("what -1", x.at(0, 0, -1), -1);
        BrickedUpAsBlind y = house(4, "w04023;");
        int[] round = {7, 7, 4, 4, 4, 4, 2};
        for (int hour = 0; hour < round.length; hour++) {
            due("round at " + hour, y.at(0, hour, 0), round[hour]);
        }
    }

    private static void movesAt() {
        BrickedUpAsBlind x = house(4, "w05000;w15000;w25000;w35000;w45000;w55000;w65017;w74000;");
        BrickedUpAsBlind y = house(4, "w70005;w79005;w45011;");
        for (int hour = 0; hour < 24; hour++) {
            boolean curtain = hour == 23 || hour <= 1;
            int[] moves = {0, 0, 0, 1 - hour % 2, curtain ? 1 : 0, 0, hour == 17 ? 1 : 0, hour % 5 == 0 ? 1 : 0};
            for (int w = 0; w < 8; w++) {
                due("moves of " + w + " at " + hour, x.at(w, hour, 1), moves[w]);
            }
            due("suitor 0 at " + hour, y.at(0, hour, 1), 1);
            due("suitor 9 at " + hour, y.at(1, hour, 1), hour % 10 == 0 ? 1 : 0);
            due("curtain at " + hour, y.at(2, hour, 1), hour >= 10 && hour <= 12 ? 1 : 0);
        }
    }

    private static void seemsAt() {
        BrickedUpAsBlind x = house(4, "w05012;w15012;w25012;w35012;w45012;w55012;w65012;w75012;");
        int[] hours = {12, 10, 9, 7, 6, 4, 3, 1, 0, 14, 15, 18, 21, 23};
        int[] painted = {5, 5, 4, 4, 3, 3, 2, 2, 1, 5, 4, 3, 2, 2};
        for (int i = 0; i < hours.length; i++) {
            int p = painted[i];
            int[] seems = {9, p, 0, hours[i] % 2 == 0 ? p + 2 : p, p, 8, 2 * p, 8};
            for (int w = 0; w < 8; w++) {
                due("seems of " + w + " at " + hours[i], x.at(w, hours[i], 2), seems[w]);
            }
        }
        BrickedUpAsBlind y = house(4, "w12000;w32000;w62000;w19000;");
        due("not below 0", y.at(0, 12, 2), 0);
        due("CAT at none", y.at(1, 12, 2), 2);
        due("CAT at none, still", y.at(1, 11, 2), 0);
        due("MAID at none", y.at(2, 12, 2), 0);
        due("9 at most apart", y.at(3, 12, 2), 5);
    }

    private static void changes() {
        BrickedUpAsBlind x = fresh(5);
        due("no shelf", x.builds(8, 0, 0), -1);
        due("no room, nothing held", x.builds(0, 4, 0), -1);
        due("room -1", x.builds(0, -1, 0), -1);
        due("facing 24", x.builds(0, 0, 24), -1);
        due("facing -1", x.builds(0, 0, -1), -1);
        due("nothing", x.builds(0, 0, 0), -11);
        x.row(0, 0, 1);
        due("a ROW", x.builds(0, 0, 0), -12);
        for (int w = 0; w < 8; w++) {
            x.keep(0, 1, w, 9 - w);
            due("number", x.builds(0, 3, 23), w);
            due("kind", x.window(w, 0), w);
            due("figure", x.window(w, 1), 9 - w);
            due("room", x.window(w, 2), 3);
            due("facing", x.window(w, 3), 23);
        }
        due("ninth", x.builds(0, 0, 0), -2);
        due("the shelf keeps it", x.cost(0), 3);
        due("eight", x.count(0), 8);
        promise = 6;
        due("stopped", x.stops(7), 1);
        due("bit", x.count(5), 128);
        due("not any more", x.stops(7), 0);
        due("bit", x.count(5), 0);
        due("no window", x.stops(8), -1);
        due("no window", x.stops(-1), -1);
        promise = 7;
        due("was 0", x.needs(3, 20), 0);
        due("was 20", x.needs(3, 0), 20);
        due("other room", x.needs(2, 7), 0);
        due("need 21", x.needs(2, 21), -1);
        due("need -1", x.needs(2, -1), -1);
        due("room 4", x.needs(4, 1), -1);
        due("room -1", x.needs(-1, 1), -1);
        due("nothing changed", x.needs(2, 0), 7);
        promise = 8;
        due("hour", x.set(0, 23), 12);
        due("hour", x.set(0, 0), 23);
        due("hour 24", x.set(0, 24), -1);
        due("hour -1", x.set(0, -1), -1);
        due("hour stays", x.count(1), 0);
        due("rate", x.set(1, 9), 1);
        due("rate", x.set(1, 1), 9);
        due("rate 0", x.set(1, 0), -1);
        due("rate 10", x.set(1, 10), -1);
        due("what 2", x.set(2, 1), -1);
        due("what -1", x.set(-1, 1), -1);
    }

    private static void yearsAndPays() {
        // WINDOW 5, CAT 3 more as it moves at 12, MAID at 12 stopped.
        BrickedUpAsBlind x = house(9, "w03000;w32100;w69012;s2;r2;");
        due("a year", x.years(1), 2 * (5 + 3 + 3));
        x.set(0, 13);
        due("two years", x.years(2), 22 + 2 * 2 * (5 + 3));
        due("year", x.count(2), 3);
        due("0", x.years(0), -1);
        due("100", x.years(100), -1);
        due("-1", x.years(-1), -1);
        for (int i = 0; i < 10; i++) {
            due("99 years", x.years(99), 54 + 99 * 16 * (i + 1));
        }
        due("993 and 7", x.years(7), -3);
        due("none went", x.count(2), 993);
        due("owed stays", x.count(3), 54 + 990 * 16);
        due("993 and 6", x.years(6), 54 + 996 * 16);
        due("999 and 1", x.years(1), -3);
        due("above all", x.years(100), -1);
        BrickedUpAsBlind y = house(9, "w79000;w79000;w79000;w79000;w79000;w79000;w79000;w79000;r9;h00;");
        // 8 of 20, and 10 for moving at 0: 240, nine times: 2160 a year.
        due("46 years", y.years(46), 46 * 2160);
        due("at most", y.years(1), 99999);
        promise = 10;
        due("1000", y.pays(1000), -1);
        due("-1", y.pays(-1), -1);
        due("999", y.pays(999), 99000);
        due("0", y.pays(0), 99000);
        BrickedUpAsBlind z = house(10, "w03000;y01;");
        due("more than owed", z.pays(6), -3);
        due("owed", z.count(3), 5);
        due("all of it", z.pays(5), 0);
        due("none is owed", z.pays(1), -3);
        due("0 of 0", z.pays(0), 0);
    }

    private static void lightAndDue() {
        BrickedUpAsBlind x = house(11, "w05012;w55012;w75112;w09012;s3;w33212;");
        due("room 0", x.light(0, 12), 8 + 4);
        due("room 1", x.light(1, 12), 5);
        due("room 2", x.light(2, 12), 0);
        due("at 6", x.light(0, 6), 5 + 2);
        due("at 0", x.light(0, 0), 2 + 1);
        x.stops(3);
        due("one more", x.light(0, 12), 24);
        due("room 4", x.light(4, 0), -1);
        due("room -1", x.light(-1, 0), -1);
        due("hour 24", x.light(0, 24), -1);
        due("hour -1", x.light(0, -1), -1);
        promise = 12;
        due("all", x.allDue(), 7 + 6 + 12 + 11 + 4);
        x.set(1, 3);
        due("times 3", x.allDue(), 3 * 40);
        x.stops(2);
        due("less", x.allDue(), 3 * 28);
        due("none", fresh(12).allDue(), 0);
    }

    private static void stopping() {
        BrickedUpAsBlind x = house(13, "w03012;w06012;n005;");
        due("stop the dear one", x.stop(0), 2);
        due("due", x.stop(1), 5);
        x.set(1, 3);
        due("due times 3", x.stop(1), 15);
        x.stops(0);
        due("whatever is stopped now", x.stop(0), 2);
        due("as it was", x.count(5), 1);
        x.needs(0, 10);
        due("both", x.stop(0), 0);
        due("due of both", x.stop(1), 3 * 13);
        x.needs(0, 15);
        due("just enough", x.stop(0), 0);
        x.needs(0, 16);
        due("never", x.stop(0), -4);
        due("never", x.stop(1), -4);
        x.needs(0, 0);
        due("all", x.stop(0), 3);
        due("nothing due", x.stop(1), 0);
        x.needs(3, 1);
        due("a room without windows", x.stop(0), -4);
        due("what 2", x.stop(2), -1);
        due("what -1", x.stop(-1), -1);
        BrickedUpAsBlind y = house(13, "w03012;w03012;w25012;n005;");
        due("the least of two", y.stop(0), 1);
        y.set(0, 0);
        due("too dark at 0", y.stop(0), -4);
        y.needs(0, 0);
        due("a BLIND one is not stopped", y.stop(0), 3);
    }

    private static void darkness() {
        BrickedUpAsBlind x = house(14, "w03012;n005;");
        int all = (1 << 24) - 1;
        due("but 10 to 14", x.dark(), all & ~(31 << 10));
        x.needs(0, 3);
        due("but 6 to 18", x.dark(), all & ~(8191 << 6));
        x.needs(0, 1);
        due("none", x.dark(), 0);
        x.needs(1, 1);
        due("another room", x.dark(), all);
        due("nothing needed", fresh(14).dark(), 0);
        promise = 15;
        due("darkest", x.darkest(), 0);
        due("facing 0", house(15, "w03000;").darkest(), 7);
        due("of two", house(15, "w03000;w04112;").darkest(), 3);
        due("stopped", house(15, "w03000;w04112;s0;").darkest(), 0);
        due("round", house(15, "w03000;w03105;").darkest(), 12);
        due("empty", fresh(15).darkest(), 0);
    }

    private static void brightness() {
        BrickedUpAsBlind x = house(16, "w03000;n003;");
        due("over midnight", x.bright(0), 18);
        due("so long", x.bright(1), 13);
        x.needs(0, 1);
        due("all from", x.bright(0), 0);
        due("all", x.bright(1), 24);
        x.needs(0, 7);
        due("none from", x.bright(0), 0);
        due("none", x.bright(1), 0);
        BrickedUpAsBlind y = house(16, "w02000;w02012;n006;");
        due("of two the least", y.bright(0), 10);
        due("five", y.bright(1), 5);
        BrickedUpAsBlind z = house(16, "w02000;w02012;w02015;s1;n008;");
        due("only where both", z.bright(1), 0);
        due("what 2", y.bright(2), -1);
        due("what -1", y.bright(-1), -1);
    }

    private static void mirrored() {
        BrickedUpAsBlind x = house(17, "w03012;w03312;");
        due("none needed", x.mirrors(), 0);
        x.needs(0, 6);
        due("enough", x.mirrors(), 0);
        x.needs(0, 7);
        due("room 0", x.mirrors(), 1);
        x.needs(3, 12);
        due("rooms 0 and 3", x.mirrors(), 9);
        x.needs(0, 13);
        due("twice is too little", x.mirrors(), -4);
        x.needs(0, 0);
        x.set(0, 9);
        due("darker", x.mirrors(), -4);
        x.needs(3, 6);
        due("room 3", x.mirrors(), 8);
        x.needs(1, 1);
        due("no window there", x.mirrors(), -4);
    }

    private static void meanLight() {
        BrickedUpAsBlind x = house(18, "w03012;w00112;w09212;s2;");
        due("65", x.mean(0, 0), 65);
        due("24", x.mean(0, 1), 24);
        due("15 of 24 are 5", x.mean(1, 0), 5);
        due("of 8", x.mean(1, 1), 8);
        due("stopped", x.mean(2, 0), 0);
        due("of 1", x.mean(2, 1), 1);
        x.stops(2);
        // 5 times 12, 8 times 9, 11 times 4: 176 of 24.
        due("22", x.mean(2, 0), 22);
        due("3", x.mean(2, 1), 3);
        due("room 4", x.mean(4, 0), LONG_REFUSED);
        due("room -1", x.mean(-1, 0), LONG_REFUSED);
        due("part 2", x.mean(0, 2), LONG_REFUSED);
        due("part -1", x.mean(0, -1), LONG_REFUSED);
    }

    private static void hiddenOnes() {
        BrickedUpAsBlind x = house(19, "w03012;w06012;n005;");
        due("the small one", x.hidden(), 1);
        read(x, "w10012;");
        due("and the painted", x.hidden(), 2);
        x.needs(0, 15);
        due("both are needed", x.hidden(), 1);
        x.needs(0, 16);
        due("it lacks anyway", x.hidden(), 3);
        x.needs(0, 5);
        x.stops(1);
        due("one of both", x.hidden(), 2);
        x.needs(1, 20);
        due("another room that lacks", x.hidden(), 2);
        due("empty", fresh(19).hidden(), 0);
        due("as it was", x.count(5), 2);
        due("only at hour 0", house(19, "w03022;w03002;n012;").hidden(), 0);
        due("only at hour 23", house(19, "w03021;w03001;n012;").hidden(), 0);
        // At 12 the first, at 0 the second: neither can go.
        due("by hours", house(19, "w03012;w03000;n006;").hidden(), 0);
    }

    private static void looking() {
        due("none", fresh(20).looks(), 0);
        due("one", house(20, "w69005;").looks(), 0);
        due("two", house(20, "w69005;w69007;").looks(), 1 << 5);
        due("three", house(20, "w69005;w69007;w69009;").looks(), 1 << 5 | 1 << 7);
        due("four", house(20, "w69005;w69007;w69009;w69011;").looks(), 1 << 5 | 1 << 7 | 1 << 9);
        BrickedUpAsBlind x = house(20, "w69005;w69007;w69009;w69011;w69013;");
        due("five", x.looks(), -4);
        x.stops(0);
        due("but for a stopped one", x.looks(), 1 << 7 | 1 << 9 | 1 << 11);
        due("0 and 2", house(20, "w39000;w72000;w00000;").looks(), 5);
        due("alike", house(20, "w39000;w31100;").looks(), -4);
        due("a stopped one is not alike", house(20, "w39000;w31100;s1;").looks(), 0);
        // At one hour by which but one moves: the least bits, not the least windows.
        due("hour 2", house(20, "w69020;w69002;").looks(), 1 << 2);
        due("hour 23", house(20, "w69023;w00002;").looks(), 1 << 23);
    }

    private static void moving() {
        BrickedUpAsBlind x = house(21, "w39000;w69007;w76000;");
        due("hour 0", x.mostMoving(0), 0);
        due("two", x.mostMoving(1), 2);
        read(x, "w40007;");
        due("hour 7", x.mostMoving(0), 7);
        due("three", x.mostMoving(1), 3);
        x.stops(3);
        due("without it", x.mostMoving(0), 0);
        due("what 2", x.mostMoving(2), -1);
        due("what -1", x.mostMoving(-1), -1);
        due("none", fresh(21).mostMoving(0), 0);
        promise = 22;
        BrickedUpAsBlind y = house(22, "w00012;w16012;w65012;w20000;w36112;s4;");
        due("all that do not shine", y.taken(0), 14);
        due("6", y.taken(6), 6);
        due("7", y.taken(7), 4);
        due("10", y.taken(10), 4);
        due("11", y.taken(11), 0);
        due("20", y.taken(20), 0);
        y.set(0, 0);
        due("a WINDOW without light", y.taken(9), 1);
        due("21", y.taken(21), -1);
        due("-1", y.taken(-1), -1);
        due("18", house(22, "w69012;").taken(18), 1);
    }

    private static void bestHours() {
        BrickedUpAsBlind x = house(23, "w17009;w63000;w35006;w30011;w43023;w55005;w75005;w25005;");
        int[] hours = {7, 0, 4, 0, 0, -4, -4, -4};
        for (int w = 0; w < 8; w++) {
            due("best of " + w, x.bestHour(w), hours[w]);
            x.stops(w);
            due("stopped too " + w, x.bestHour(w), hours[w]);
        }
        due("no window", x.bestHour(8), -1);
        due("no window", x.bestHour(-1), -1);
        due("WINDOW", house(23, "w05005;").bestHour(0), -4);
        due("CAT at odd hours", house(23, "w39013;").bestHour(0), 12);
        due("over midnight", house(23, "w19022;").bestHour(0), 0);
        due("late", house(23, "w19021;").bestHour(0), 19);
    }

    private static void playing() {
        BrickedUpAsBlind x = house(24, "w34000;");
        due("one look", x.game(1, 0), 5);
        due("at 0", x.game(1, 1), 0);
        due("stopped behind it", x.game(2, 0), 5);
        due("none", x.game(0, 0), 0);
        due("none", x.game(0, 1), -4);
        read(x, "w32000;");
        due("both", x.game(1, 0), 8);
        due("both, then the lesser", x.game(2, 0), 11);
        due("no more", x.game(3, 0), 11);
        due("four", x.game(4, 0), 11);
        x.set(1, 5);
        due("RATE is not in it", x.game(2, 0), 11);
        x.stops(0);
        due("one stopped", x.game(2, 0), 3);
        due("as it was", x.count(5), 1);
        BrickedUpAsBlind y = house(24, "w69006;w67012;w65018;");
        due("the dearest", y.game(1, 0), 10);
        due("at 6", y.game(1, 1), 6);
        due("and the least", y.game(2, 0), 16);
        due("from 6", y.game(2, 1), 6);
        due("four", y.game(4, 0), 16);
        y.stops(0);
        due("at 12", y.game(1, 1), 12);
        due("8", y.game(1, 0), 8);
        BrickedUpAsBlind z = house(24, "w69018;w30000;");
        due("with the CAT", z.game(2, 0), 11);
        due("at 18", z.game(2, 1), 18);
        due("5", z.game(5, 0), -1);
        due("-1", z.game(-1, 0), -1);
        due("what 2", z.game(0, 2), -1);
        due("what -1", z.game(1, -1), -1);
        due("no windows", fresh(24).game(4, 1), 0);
    }

    private static void suiting() {
        BrickedUpAsBlind x = house(25, "w01012;w66012;");
        due("the MAID", x.suitor(0), 1);
        due("six hours on", x.suitor(1), 6);
        x.stops(0);
        due("no other", x.suitor(1), -4);
        x.stops(1);
        due("none", x.suitor(0), -4);
        due("none", x.suitor(1), -4);
        due("greatest FIGURE", house(25, "w03000;w05000;w04000;").suitor(0), 1);
        due("least of several", house(25, "w50000;w03000;w05012;w05000;").suitor(0), 2);
        due("always that", house(25, "w03000;w05000;").suitor(1), -4);
        due("BLIND", house(25, "w29000;").suitor(0), -4);
        // 10 by 12 till 14, 9 from 15 on beside the WINDOW of greater FIGURE.
        due("over midnight", house(25, "w19023;w54000;h21;").suitor(0), 0);
        due("behind midnight", house(25, "w19023;w54000;h21;").suitor(1), 8);
        // Seems nothing from 11 apart on, and nobody else does: none is not another.
        due("none is not another", house(25, "w12012;").suitor(1), -4);
        due("another behind none", house(25, "w11012;w11000;").suitor(1), 10);
        due("none now", house(25, "w11012;h00;").suitor(1), -4);
        due("what 2", x.suitor(2), -1);
        due("what -1", x.suitor(-1), -1);
    }

    private static void twinned() {
        BrickedUpAsBlind x = house(26, "w13000;w25000;w03012;w03112;w31000;w39000;");
        due("three", x.twins(0), 3);
        due("0 and 1", x.twins(1), 1);
        x.stops(2);
        due("a stopped one as a BLIND", x.twins(0), 4);
        x.stops(0);
        x.stops(1);
        due("stopped ones alike", x.twins(0), 4);
        BrickedUpAsBlind y = house(26, "w03012;w03013;w04012;w53012;w73012;w72012;w63005;w63006;");
        due("none", y.twins(0), 0);
        due("none", y.twins(1), -4);
        due("moves only", house(26, "w70000;w71000;w13000;").twins(0), 0);
        due("2 and 5", house(26, "w03012;w03013;w63007;w34000;w72012;w64107;").twins(1), 25);
        due("what 2", x.twins(2), -1);
        due("what -1", x.twins(-1), -1);
    }

    private static void whatItWas() {
        BrickedUpAsBlind x = fresh(27);
        tell(x, 0, 1);
        due("nothing told", x.whatWas(0, 9, 0, 0), 255);
        due("eight", x.whatWas(0, 9, 0, 1), 8);
        int dim = 1 << PAINTED | 1 << BLIND | 1 << CAT | 1 << CURTAIN | 1 << MAID;
        tell(x, 0, 1, 0, -32768);
        due("0 is a LATTICE too", x.whatWas(0, 3, 12, 0), dim | 1 << LATTICE);
        tell(x, 0, 1, 0, 0, 0, 0, 0, 0, 1);
        due("a LATTICE", x.whatWas(0, 3, 12, 0), 1 << LATTICE);
        due("one", x.whatWas(0, 3, 12, 1), 1);
        tell(x, 0, 2, 12, Integer.MIN_VALUE, Integer.MIN_VALUE, 9);
        due("a WINDOW", x.whatWas(0, 9, 0, 0), 1 << WINDOW);
        tell(x, 0, 0, 7, -128, -128, 5);
        due("a SUITOR", x.whatWas(0, 9, 0, 0), 1 << SUITOR);
        tell(x, 0, 0, 7, -128, -128, 4);
        due("none", x.whatWas(0, 9, 0, 0), 0);
        tell(x, 0, 1, -128);
        due("-128 is told in shorts", x.whatWas(0, 9, 0, 1), 0);
        x.row(0, 0, 24);
        due("a day", x.whatWas(0, 1, 0, 0), dim);
        x.row(0, 0, 25);
        due("more than a day", x.whatWas(0, 0, 0, 0), -13);
        due("the first refusal", x.whatWas(0, 10, 0, 0), -1);
        due("figure -1", x.whatWas(0, -1, 0, 0), -1);
        due("hour 24", x.whatWas(0, 0, 24, 0), -1);
        due("hour -1", x.whatWas(0, 0, -1, 0), -1);
        due("what 2", x.whatWas(0, 0, 0, 2), -1);
        due("what -1", x.whatWas(0, 0, 0, -1), -1);
        due("no shelf", x.whatWas(8, 0, 0, 0), -1);
        due("nothing", x.whatWas(1, 0, 0, 0), -11);
        x.keep(1, 1, 0, 0);
        due("a KIND", x.whatWas(1, 0, 0, 0), -12);
    }

    private static void payingOff() {
        BrickedUpAsBlind x = house(28, "w03000;");
        due("nothing is owed", x.paidOff(0), 0);
        due("-1", x.paidOff(-1), -1);
        due("1000", x.paidOff(1000), -1);
        x.years(2);
        due("10 a year", x.paidOff(10), 2);
        due("6 a year", x.paidOff(6), 10);
        due("5 a year", x.paidOff(5), -4);
        due("none a year", x.paidOff(0), -4);
        due("999 a year", x.paidOff(999), 1);
        due("15 a year", x.paidOff(15), 1);
        due("14 a year", x.paidOff(14), 2);
        x.years(10);
        due("60 years", x.paidOff(6), 60);
        x.years(1);
        due("65 years", x.paidOff(6), -4);
        due("as it was", x.count(3), 65);
        // A CAT moves at 12: 2 and 2 each year; at 13: 2.
        BrickedUpAsBlind y = house(28, "w31000;y99;y99;y99;y99;y99;y99;y99;y99;y99;y99;y09;h13;");
        due("YEAR no matter", y.paidOff(999), 5);
        y.set(0, 12);
        due("what moves too", y.paidOff(103), 41);
        BrickedUpAsBlind z = house(28, "w79000;w79000;w79000;w79000;w79000;w79000;w79000;w79000;r9;h01;y99;");
        due("99999 at most", z.count(3), 99999);
        due("never", z.paidOff(999), -4);
    }

    private static void raining() {
        BrickedUpAsBlind x = fresh(29);
        long[][] rains = {{2, 2, 1, 3, 4}, {3, 3, 2, 7, 27}, {2, 4, 2, 11, 16}, {2, 3, 2, 1, 2}, {10, 2, 1, 19, 100},
            {20, 8, 8, 1, 25600000000L}, {20, 8, 0, 1, 1}, {2, 0, 0, 1, 1}, {2, 0, 1, 0, 1}, {5, 3, 4, 0, 1},
            {2, 8, 8, 1, 256}, {2, 8, 4, 163, 256}, {4, 2, 1, 7, 16}, {6, 3, 3, 1, 216}, {6, 1, 1, 1, 6},
            {20, 8, 7, 153, 25600000000L}, {3, 2, 1, 5, 9}};
        for (long[] rain : rains) {
            int t = (int) rain[0];
            int n = (int) rain[1];
            int k = (int) rain[2];
            due("above " + t + " " + n + " " + k, x.rain(t, n, k, 0), rain[3]);
            due("below " + t + " " + n + " " + k, x.rain(t, n, k, 1), rain[4]);
        }
        int[][] refused = {{1, 0, 0, 0}, {21, 0, 0, 0}, {2, -1, 0, 0}, {2, 9, 0, 0}, {2, 0, -1, 0}, {2, 0, 9, 0},
            {2, 0, 0, -1}, {2, 0, 0, 2}};
        for (int[] r : refused) {
            due("refused", x.rain(r[0], r[1], r[2], r[3]), LONG_REFUSED);
        }
    }

    private static void loopholes() {
        BrickedUpAsBlind x = house(30, "w03012;");
        due("BLIND", x.loophole(), 2);
        x.needs(0, 6);
        due("its light is needed", x.loophole(), -4);
        x.needs(0, 20);
        due("it lacks, but not more", x.loophole(), -4);
        x.needs(0, 3);
        due("a LATTICE is enough", x.loophole(), 5);
        x.needs(1, 20);
        due("another room lacks as before", x.loophole(), 5);
        read(x, "w39000;");
        due("the CAT", x.loophole(), 12);
        x.stops(1);
        due("not what is stopped", x.loophole(), 5);
        due("as it was", x.window(0, 0), WINDOW);
        due("the least WINDOW", house(30, "w25000;w13000;w13000;").loophole(), 12);
        due("none is due", house(30, "w25000;").loophole(), -4);
        due("none", fresh(30).loophole(), -4);
        // LATTICE 6 for SUITOR 1 for 6 more: light 6 and 7; a WINDOW has 12 for 11.
        BrickedUpAsBlind y = house(30, "w79012;n006;");
        due("LATTICE", y.loophole(), 5);
        y.needs(0, 7);
        due("WINDOW", y.loophole(), 0);
        y.set(0, 0);
        y.needs(0, 3);
        due("at HOUR", y.loophole(), 0);
    }

    private static void forging() {
        BrickedUpAsBlind x = house(31, "w39000;");
        tell(x, 0, 0, 1, 0, 1, 0);
        due("from an even hour", x.forged(0), -4);
        tell(x, 0, 0, 0, 1, 0);
        due("from an odd hour", x.forged(0), -4);
        tell(x, 0, 0, 1, 1);
        due("the second", x.forged(0), 1);
        tell(x, 0, 0, 2, 1);
        due("the first", x.forged(0), 0);
        tell(x, 0, 0);
        due("nothing told", x.forged(0), -4);
        tell(x, 0, 2, Integer.MIN_VALUE);
        due("none is skipped", x.forged(0), 0);
        BrickedUpAsBlind y = house(31, "w69005;");
        y.row(0, 2, 100);
        y.put(0, 0, 1);
        due("24 hours on", y.forged(0), 24);
        y.put(0, 24, 1);
        due("48 hours on", y.forged(0), 48);
        y.put(0, 48, 1);
        y.put(0, 72, 1);
        y.put(0, 96, 1);
        due("all of it", y.forged(0), -4);
        y.stops(0);
        due("stopped", y.forged(0), 0);
        due("no shelf", y.forged(8), -1);
        due("no shelf", y.forged(-1), -1);
        due("nothing", y.forged(1), -11);
        y.keep(1, 1, 0, 0);
        due("a KIND", y.forged(1), -12);
    }

    private static void judging() {
        BrickedUpAsBlind x = house(32, "w03000;");
        tell(x, 0, 0, 0, 5, 10);
        due("so", x.judge(0), -4);
        tell(x, 0, 1, 0, 5, 11);
        due("not the third", x.judge(0), 2);
        tell(x, 0, 0, -128, -128, 10, 16);
        due("skipped", x.judge(0), 3);
        tell(x, 0, 2, -128);
        due("-128 is told in ints", x.judge(0), 0);
        tell(x, 0, 2);
        due("nothing told", x.judge(0), -4);
        read(x, "y99;y99;y99;y99;y99;y99;y99;y99;y99;y99;y09;w30000;");
        tell(x, 0, 2, 4995, 4995 + 7, 4995 + 14);
        due("at HOUR, whatever YEAR", x.judge(0), -4);
        BrickedUpAsBlind z = house(32, "w79000;w79000;w79000;w79000;w79000;w79000;w79000;w79000;r9;h00;y46;");
        tell(z, 0, 2, 46 * 2160, 99999, 99999, 100000);
        due("99999 at most", z.judge(0), 3);
        due("no shelf", x.judge(8), -1);
        due("no shelf", x.judge(-1), -1);
        due("nothing", x.judge(1), -11);
        x.keep(1, 1, 0, 0);
        due("a KIND", x.judge(1), -12);
    }

    private static void drawing() {
        // Seed 1 draws 14 22 9 19 19 11 18 3 12 6, then three even ones of ten.
        BrickedUpAsBlind x = house(33, "w33000;");
        due("owed more", x.lots(1, 1, 0), 10 * 4 + 5 * 4);
        due("in five", x.lots(1, 1, 1), 5);
        due("twice", x.lots(2, 1, 0), 20 * 4 + 8 * 4);
        due("in eight", x.lots(2, 1, 1), 8);
        due("as it was", x.count(3), 0);
        due("hour as it was", x.count(1), 12);
        BrickedUpAsBlind y = house(33, "w60019;r2;");
        due("at 19", y.lots(1, 1, 1), 2);
        due("times 2", y.lots(1, 1, 0), 10 * 2 + 2 * 2);
        due("two MAIDS of a year", house(33, "w60019;w60019;").lots(1, 1, 1), 2);
        due("stopped", house(33, "w60019;s0;").lots(1, 1, 0), 0);
        BrickedUpAsBlind z = house(33, "w79000;w79000;w79000;w79000;w79000;w79000;w79000;w79000;r9;h00;y46;");
        due("99999 at most, each from now", z.lots(20, 5, 0), 20 * (99999 - 46 * 2160));
        // Of seed 0 the first draw is 0: 12345 over 65536, cut.
        due("seed 0", house(33, "w60000;").lots(1, 0, 1) > 0 ? 1 : 0, 1);
        due("0", x.lots(0, 1, 0), -1);
        due("21", x.lots(21, 1, 0), -1);
        due("what 2", x.lots(1, 1, 2), -1);
        due("what -1", x.lots(1, 1, -1), -1);
    }

    private static void imaging() {
        BrickedUpAsBlind x = fresh(35);
        due("there is none", x.restore(), -3);
        promise = 34;
        read(x, "w03012;n105;h07;r2;y03;s0;");
        x.keep(0, 1, CAT, 2);
        due("YEAR", x.image(), 3);
        promise = 35;
        read(x, "w14012;n106;n007;h08;r3;y02;s0;");
        x.keep(0, 1, MAID, 2);
        due("YEAR then", x.restore(), 3);
        int[] counts = {1, 7, 3, 30, 2, 1, 5, 0};
        for (int what = 0; what < counts.length; what++) {
            due("count " + what, x.count(what), counts[what]);
        }
        due("shelves stay", x.cost(0), 6);
        due("need", x.needs(1, 0), 5);
        x.builds(0, 3, 3);
        due("again", x.restore(), 3);
        due("need", x.needs(1, 5), 5);
        due("windows", x.count(0), 1);
        due("what the first is", x.window(0, 1), 3);
        x.years(1);
        due("a new one", x.image(), 4);
        x.set(0, 1);
        due("of that", x.restore(), 4);
        due("hour", x.count(1), 7);
    }

    private static void counting() {
        BrickedUpAsBlind x = house(36, "w03012;w06112;w09212;s1;n009;n303;h15;r4;y02;");
        int[] counts = {3, 15, 2, 2 * 4 * (5 + 11), 4, 2, 12, 3 + 9};
        for (int what = 0; what < counts.length; what++) {
            due("count " + what, x.count(what), counts[what]);
        }
        due("8", x.count(8), -1);
        due("-1", x.count(-1), -1);
    }

    private static void keeping() {
        BrickedUpAsBlind x = fresh(37);
        due("a KIND", x.keep(7, 1, SUITOR, 9), 0);
        due("held", x.cost(7), 3);
        due("nothing, whatever else", x.keep(7, 0, -5, 99), 0);
        due("gone", x.cost(7), -11);
        due("shelf 8", x.keep(8, 1, 0, 0), -1);
        due("shelf -1", x.keep(-1, 0, 0, 0), -1);
        due("what 2", x.keep(0, 2, 0, 0), -1);
        due("what -1", x.keep(0, -1, 0, 0), -1);
        due("kind 8", x.keep(0, 1, 8, 0), -1);
        due("kind -1", x.keep(0, 1, -1, 0), -1);
        due("figure 10", x.keep(0, 1, 0, 10), -1);
        due("figure -1", x.keep(0, 1, 0, -1), -1);
        due("still nothing", x.cost(0), -11);
        x.row(0, 0, 1);
        due("in place of a ROW", x.keep(0, 1, WINDOW, 1), 0);
        due("no ROW", x.put(0, 0, 0), -12);
        promise = 38;
        due("a ROW", x.row(0, 2, 100), 0);
        due("last place", x.put(0, 99, 1), 0);
        due("no KIND", x.cost(0), -12);
        due("a new one", x.row(0, 2, 100), 0);
        due("of 0", x.element(0, 99), 0);
        due("empty", x.row(0, 0, 0), 0);
        due("no place", x.put(0, 0, 0), -13);
        due("101", x.row(0, 0, 101), -1);
        due("below 0", x.row(0, 0, -1), -14);
        due("the least", x.row(0, 0, Integer.MIN_VALUE), -14);
        due("sort 3", x.row(0, 3, -1), -1);
        due("sort -1", x.row(0, -1, 1), -1);
        due("shelf 8", x.row(8, 0, -1), -1);
        due("shelf -1", x.row(-1, 0, 1), -1);
        due("as it was", x.put(0, 0, 0), -13);
    }

    private static void putting() {
        BrickedUpAsBlind x = fresh(39);
        int[] values = {0, 127, 128, 255, -129, 32768, -32769, 70000, Integer.MIN_VALUE, Integer.MAX_VALUE};
        x.row(0, 0, 10);
        x.row(1, 1, 10);
        x.row(2, 2, 10);
        for (int i = 0; i < values.length; i++) {
            for (int d = 0; d < 3; d++) {
                due("put", x.put(d, i, values[i]), 0);
            }
            due("byte", x.element(0, i), (byte) values[i]);
            due("short", x.element(1, i), (short) values[i]);
            due("int", x.element(2, i), values[i]);
        }
        due("10", x.put(0, 10, 0), -13);
        due("-1", x.put(0, -1, 0), -13);
        due("shelf 8", x.put(8, 0, 0), -1);
        due("shelf -1", x.put(-1, 0, 0), -1);
        due("nothing", x.put(3, 0, 0), -11);
        x.keep(3, 1, 0, 0);
        due("a KIND", x.put(3, 0, 0), -12);
        promise = 40;
        due("shelf 8", thrownBy(x, 8, 0), 1);
        due("shelf -1", thrownBy(x, -1, 0), 1);
        due("a KIND", thrownBy(x, 3, 0), 2);
        due("nothing", thrownBy(x, 4, 0), 2);
        due("10", thrownBy(x, 0, 10), 2);
        due("-1", thrownBy(x, 0, -1), 2);
        due("9", thrownBy(x, 0, 9), 0);
    }

    private static void copying() {
        BrickedUpAsBlind x = fresh(41);
        tell(x, 0, 2, 1, 2, 3, 4, 5);
        x.row(1, 2, 3);
        due("three", x.copy(0, 1, 1, 0, 3), 3);
        due("first", x.element(1, 0), 2);
        due("last", x.element(1, 2), 4);
        due("onto itself", x.copy(0, 0, 0, 1, 4), 4);
        int[] moved = {1, 1, 2, 3, 4};
        for (int i = 0; i < moved.length; i++) {
            due("moved " + i, x.element(0, i), moved[i]);
        }
        due("none", x.copy(0, 5, 1, 3, 0), 0);
        due("none from beyond", x.copy(0, 6, 1, 0, 0), -13);
        due("none to beyond", x.copy(0, 0, 1, 4, 0), -13);
        due("too many", x.copy(0, 3, 1, 0, 3), -13);
        due("too many there", x.copy(0, 0, 1, 1, 3), -13);
        due("below 0", x.copy(0, 0, 1, 0, -1), -13);
        due("from -1", x.copy(0, -1, 1, 0, 1), -13);
        due("to -1", x.copy(0, 0, 1, -1, 1), -13);
        due("wraps", x.copy(0, Integer.MAX_VALUE, 1, 0, Integer.MAX_VALUE), -13);
        due("wraps", x.copy(0, 1, 1, 1, Integer.MAX_VALUE), -13);
        due("the least", x.copy(0, Integer.MIN_VALUE, 1, 0, 1), -13);
        due("as it was", x.element(1, 0), 2);
        x.row(2, 1, 5);
        due("another SORT", x.copy(0, 0, 2, 0, 1), -12);
        due("another SORT, and no place", x.copy(2, 9, 0, 0, -1), -12);
        x.keep(3, 1, 0, 0);
        due("a KIND", x.copy(3, 0, 0, 0, 1), -12);
        due("a KIND", x.copy(0, 0, 3, 0, 1), -12);
        due("two KINDS", x.copy(3, 0, 3, 0, 1), -12);
        due("nothing", x.copy(4, 0, 3, 0, 1), -11);
        due("nothing", x.copy(3, 0, 4, 0, 1), -11);
        due("shelf 8", x.copy(8, 0, 4, 0, 1), -1);
        due("shelf -1", x.copy(4, 0, -1, 0, 1), -1);
    }

    private static void costingAndTossing() {
        BrickedUpAsBlind x = fresh(42);
        int[] costs = {5, 8, 1, 9, 16, 7, 7, 3};
        int[] failures = {3, 103, -15, 103, 216, 3, 103, -15};
        for (int kind = 0; kind < 8; kind++) {
            x.keep(0, 1, kind, 3);
            promise = 42;
            due("cost of " + kind, x.cost(0), costs[kind]);
            promise = 43;
            due("toss of " + kind, x.toss(0), failures[kind]);
            x.keep(0, 1, kind, 0);
            due("without FIGURE " + kind, x.toss(0), -15);
        }
        x.row(1, 0, 1);
        due("a ROW", x.toss(1), -12);
        due("nothing", x.toss(2), -11);
        due("shelf 8", x.toss(8), -1);
        due("shelf -1", x.toss(-1), -1);
        promise = 42;
        due("a ROW", x.cost(1), -12);
        due("nothing", x.cost(2), -11);
        due("shelf 8", x.cost(8), -1);
        due("shelf -1", x.cost(-1), -1);
    }

    public static void main(String[] args) {
        newObject();
        houseFaults();
        houseComes();
        windows();
        shinesAt();
        movesAt();
        seemsAt();
        changes();
        yearsAndPays();
        lightAndDue();
        stopping();
        darkness();
        brightness();
        mirrored();
        meanLight();
        hiddenOnes();
        looking();
        moving();
        bestHours();
        playing();
        suiting();
        twinned();
        whatItWas();
        payingOff();
        raining();
        loopholes();
        forging();
        judging();
        drawing();
        imaging();
        counting();
        keeping();
        putting();
        copying();
        costingAndTossing();
        System.out.println(wrong == 0 ? "all promises hold" : wrong + " answers are not as due");
        if (wrong != 0) {
            System.exit(1);
        }
    }
}
