import java.lang.reflect.InvocationTargetException;
import java.lang.reflect.Method;
import java.lang.reflect.Modifier;
import java.math.BigInteger;
import java.util.ArrayList;
import java.util.Arrays;
import java.util.Collections;
import java.util.HashSet;
import java.util.List;
import java.util.Random;
import java.util.Set;
import java.util.TreeMap;
import java.util.regex.Pattern;

/**
 * Runs of drawn calls (of fixed seeds), each answer beside that of a model that
 * is written another way: kinds as classes, sets tried one by one, slow and plain.
 */
public final class ModelTest {
    private static final int RUNS = 1200;
    private static final int CALLS = 256;

    // ---- the kinds, each under another

    private static class Pane implements Cloneable {
        int figure;
        int room;
        int facing;
        boolean stopped;

        int kind() {
            return 0;
        }

        int apart(int hour) {
            int steps = 0;
            for (int a = hour, b = hour; a != facing && b != facing; steps++) {
                a = (a + 1) % 24;
                b = (b + 23) % 24;
            }
            return steps;
        }

        int shines(int hour) {
            if (apart(hour) >= 7) {
                return figure / 2;
            }
            return apart(hour) <= 2 ? figure + 3 : figure;
        }

        int dues() {
            return figure + 2;
        }

        boolean moves(int hour) {
            return false;
        }

        int seems(int hour) {
            return 9;
        }

        int costs() {
            return 5;
        }

        int fails() {
            return figure == 0 ? -15 : figure;
        }
    }

    private static class Painted extends Pane {
        @Override int kind() {
            return 1;
        }

        @Override int shines(int hour) {
            return 0;
        }

        @Override int dues() {
            return 1;
        }

        @Override int seems(int hour) {
            int lost = 0;
            for (int a = apart(hour); a >= 3; a -= 3) {
                lost++;
            }
            return figure > lost ? figure - lost : 0;
        }

        @Override int costs() {
            return super.costs() + figure;
        }

        @Override int fails() {
            return super.fails() < 0 ? super.fails() : 100 + super.fails();
        }
    }

    private static class Blind extends Pane {
        @Override int kind() {
            return 2;
        }

        @Override int shines(int hour) {
            return 0;
        }

        @Override int dues() {
            return 0;
        }

        @Override int seems(int hour) {
            return 0;
        }

        @Override int costs() {
            return super.costs() - 4;
        }

        @Override int fails() {
            return -15;
        }
    }

    private static class Cat extends Painted {
        @Override int kind() {
            return 3;
        }

        @Override int dues() {
            return super.dues() + figure;
        }

        @Override boolean moves(int hour) {
            return (hour & 1) == 0;
        }

        @Override int seems(int hour) {
            return super.seems(hour) + (moves(hour) ? 2 : 0);
        }

        @Override int costs() {
            return super.costs() + 1;
        }
    }

    private static class Curtain extends Painted {
        @Override int kind() {
            return 4;
        }

        @Override boolean moves(int hour) {
            return hour == facing || (hour + 1) % 24 == facing || hour == (facing + 1) % 24;
        }

        @Override int costs() {
            return super.costs() * 2;
        }

        @Override int fails() {
            return super.fails() < 0 ? super.fails() : 200 + costs();
        }
    }

    private static class Lattice extends Pane {
        @Override int kind() {
            return 5;
        }

        @Override int shines(int hour) {
            return super.shines(hour) / 2;
        }

        @Override int dues() {
            return super.dues() - 1;
        }

        @Override int seems(int hour) {
            return super.seems(hour) - 1;
        }

        @Override int costs() {
            return super.costs() + 2;
        }
    }

    private static class Maid extends Painted {
        @Override int kind() {
            return 6;
        }

        @Override boolean moves(int hour) {
            return hour == facing;
        }

        @Override int seems(int hour) {
            return super.seems(hour) * 2;
        }

        @Override int costs() {
            return super.costs() - 1;
        }
    }

    private static class Suitor extends Lattice {
        @Override int kind() {
            return 7;
        }

        @Override int shines(int hour) {
            return super.shines(hour) + 1;
        }

        @Override int dues() {
            return super.dues() * 2;
        }

        @Override boolean moves(int hour) {
            int h = hour;
            while (h > 0) {
                h -= figure + 1;
            }
            return h == 0;
        }

        @Override int costs() {
            return super.costs() / 2;
        }

        @Override int fails() {
            return -15;
        }
    }

    private static Pane pane(int kind, int figure, int room, int facing) {
        Pane[] all = {new Pane(), new Painted(), new Blind(), new Cat(), new Curtain(), new Lattice(), new Maid(),
            new Suitor()};
        Pane p = all[kind];
        p.figure = figure;
        p.room = room;
        p.facing = facing;
        return p;
    }

    /** What a shelf holds: null, a Pane, or a Told. */
    private static final class Told {
        int sort;
        int[] elements;
    }

    private static final class State {
        List<Pane> panes = new ArrayList<>();
        int[] need = new int[4];
        int hour = 12;
        int year;
        int owed;
        int rate = 1;

        State copied() {
            State s = new State();
            for (Pane p : panes) {
                Pane q = pane(p.kind(), p.figure, p.room, p.facing);
                q.stopped = p.stopped;
                s.panes.add(q);
            }
            s.need = need.clone();
            s.hour = hour;
            s.year = year;
            s.owed = owed;
            s.rate = rate;
            return s;
        }

        State stopping(int bits) {
            State s = copied();
            for (int w = 0; w < panes.size(); w++) {
                s.panes.get(w).stopped = (bits >> w & 1) == 1;
            }
            return s;
        }

        List<Pane> open() {
            List<Pane> list = new ArrayList<>();
            for (Pane p : panes) {
                if (!p.stopped) {
                    list.add(p);
                }
            }
            return list;
        }

        int lightIn(int room, int hour) {
            return open().stream().filter(p -> p.room == room).mapToInt(p -> p.shines(hour)).sum();
        }

        int dueAll() {
            return open().stream().mapToInt(Pane::dues).sum() * rate;
        }

        long movingAt(int hour) {
            return open().stream().filter(p -> p.moves(hour)).count();
        }

        void pass(int hour) {
            owed += dueAll() + rate * open().stream().filter(p -> p.moves(hour)).mapToInt(p -> p.figure + 1).sum();
            if (owed > 99999) {
                owed = 99999;
            }
        }

        /** Rooms (bits) that lack at an hour. */
        int lacking(int hour) {
            int bits = 0;
            for (int room = 0; room < 4; room++) {
                bits |= lightIn(room, hour) < need[room] ? 1 << room : 0;
            }
            return bits;
        }

        int greatestSeeming(int hour) {
            int best = -4;
            for (int w = 0; w < panes.size(); w++) {
                Pane p = panes.get(w);
                if (!p.stopped && p.seems(hour) > 0) {
                    int key = p.seems(hour) * 100 + p.figure;
                    Pane b = best < 0 ? null : panes.get(best);
                    if (b == null || key > b.seems(hour) * 100 + b.figure) {
                        best = w;
                    }
                }
            }
            return best;
        }
    }

    /** The same calls as the class has. */
    public static final class Model {
        private State s = new State();
        private State saved;
        private final Object[] shelves = new Object[8];

        private static boolean in(int v, int low, int high) {
            return low <= v && v <= high;
        }

        private int shelfRefusal(int d, boolean row) {
            if (!in(d, 0, 7)) {
                return -1;
            }
            if (shelves[d] == null) {
                return -11;
            }
            return shelves[d] instanceof Told == row ? 0 : -12;
        }

        private static int untold(Told t) {
            return new int[] {Byte.MIN_VALUE, Short.MIN_VALUE, Integer.MIN_VALUE}[t.sort];
        }

        private static int pick(int what, int first, int second) {
            return what == 0 ? first : what == 1 ? second : -1;
        }

        public int house(int d) {
            int r = shelfRefusal(d, true);
            if (r < 0) {
                return r;
            }
            Told t = (Told) shelves[d];
            if (t.sort != 0) {
                return -12;
            }
            StringBuilder sb = new StringBuilder();
            for (int e : t.elements) {
                sb.append((char) (e & 255));
            }
            String text = sb.toString();
            int fault = faultOf(text);
            if (fault >= 0) {
                return -1000 - fault;
            }
            State before = s.copied();
            int place = 0;
            int n = 0;
            for (String statement : text.split(";")) {
                if (refuses(statement)) {
                    s = before;
                    return -2000 - place;
                }
                place += statement.length() + 1;
                n++;
            }
            return n;
        }

        /** The longest part from the start that some text goes on from, or -1. */
        private static int faultOf(String text) {
            String whole = "(w\\d{5};|n\\d{3};|s\\d;|h\\d\\d;|r\\d;|y\\d\\d;|p\\d{3};)+";
            if (Pattern.matches(whole, text)) {
                return -1;
            }
            String part = "(w\\d{5};|n\\d{3};|s\\d;|h\\d\\d;|r\\d;|y\\d\\d;|p\\d{3};)*"
                    + "(w\\d{0,5}|n\\d{0,3}|s\\d?|h\\d{0,2}|r\\d?|y\\d{0,2}|p\\d{0,3})?";
            int end = 0;
            while (end < text.length() && Pattern.matches(part, text.substring(0, end + 1))) {
                end++;
            }
            return end;
        }

        private boolean refuses(String st) {
            int n = Integer.parseInt(st.substring(1));
            switch (st.charAt(0)) {
                case 'w':
                    return !adds(n / 10000, n / 1000 % 10, n / 100 % 10, n % 100);
                case 'n':
                    return needs(n / 100, n % 100) < 0;
                case 's':
                    return stops(n) < 0;
                case 'h':
                    return set(0, n) < 0;
                case 'r':
                    return set(1, n) < 0;
                case 'y':
                    return years(n) < 0;
                default:
                    return pays(n) < 0;
            }
        }

        private boolean adds(int kind, int figure, int room, int facing) {
            return in(kind, 0, 7) && in(room, 0, 3) && in(facing, 0, 23) && s.panes.size() < 8
                    && s.panes.add(pane(kind, figure, room, facing));
        }

        private boolean none(int w) {
            return !in(w, 0, s.panes.size() - 1);
        }

        public int window(int w, int what) {
            if (none(w) || !in(what, 0, 5)) {
                return -1;
            }
            Pane p = s.panes.get(w);
            return new int[] {p.kind(), p.figure, p.room, p.facing, p.stopped ? 1 : 0, p.dues()}[what];
        }

        public int at(int w, int hour, int what) {
            if (none(w) || !in(hour, 0, 23) || !in(what, 0, 2)) {
                return -1;
            }
            Pane p = s.panes.get(w);
            return p.stopped ? 0 : new int[] {p.shines(hour), p.moves(hour) ? 1 : 0, p.seems(hour)}[what];
        }

        public int builds(int d, int room, int facing) {
            if (!in(room, 0, 3) || !in(facing, 0, 23)) {
                return -1;
            }
            int r = shelfRefusal(d, false);
            if (r < 0) {
                return r;
            }
            Pane p = (Pane) shelves[d];
            return adds(p.kind(), p.figure, room, facing) ? s.panes.size() - 1 : -2;
        }

        public int stops(int w) {
            if (none(w)) {
                return -1;
            }
            Pane p = s.panes.get(w);
            p.stopped = !p.stopped;
            return p.stopped ? 1 : 0;
        }

        public int needs(int room, int v) {
            if (!in(room, 0, 3) || !in(v, 0, 20)) {
                return -1;
            }
            int was = s.need[room];
            s.need[room] = v;
            return was;
        }

        public int set(int what, int v) {
            int was = pick(what, s.hour, s.rate);
            if (what == 0 && in(v, 0, 23)) {
                s.hour = v;
            } else if (what == 1 && in(v, 1, 9)) {
                s.rate = v;
            } else {
                return -1;
            }
            return was;
        }

        public int years(int n) {
            if (!in(n, 1, 99)) {
                return -1;
            }
            if (s.year > 999 - n) {
                return -3;
            }
            for (int i = 0; i < n; i++) {
                s.pass(s.hour);
                s.year++;
            }
            return s.owed;
        }

        public int pays(int v) {
            if (!in(v, 0, 999)) {
                return -1;
            }
            return v > s.owed ? -3 : (s.owed -= v);
        }

        public int light(int room, int hour) {
            return in(room, 0, 3) && in(hour, 0, 23) ? s.lightIn(room, hour) : -1;
        }

        public int allDue() {
            return s.dueAll();
        }

        public int stop(int what) {
            int best = -4;
            int due = -4;
            for (int bits = (1 << s.panes.size()) - 1; bits >= 0; bits--) {
                State t = s.stopping(bits);
                if (t.lacking(s.hour) == 0 && (best < 0 || t.dueAll() <= due)) {
                    best = bits;
                    due = t.dueAll();
                }
            }
            return pick(what, best, due);
        }

        public int dark() {
            int bits = 0;
            for (int h = 0; h < 24; h++) {
                bits += s.lacking(h) != 0 ? 1 << h : 0;
            }
            return bits;
        }

        private int lightAt(int hour) {
            return s.lightIn(0, hour) + s.lightIn(1, hour) + s.lightIn(2, hour) + s.lightIn(3, hour);
        }

        public int darkest() {
            TreeMap<Integer, Integer> hours = new TreeMap<>();
            for (int h = 0; h < 24; h++) {
                hours.putIfAbsent(lightAt(h), h);
            }
            return hours.firstEntry().getValue();
        }

        public int bright(int what) {
            int from = 0;
            int longest = 0;
            int dark = dark();
            for (int h = 23; h >= 0; h--) {
                int n = 0;
                while (n < 24 && (dark & 1 << (h + n) % 24) == 0) {
                    n++;
                }
                if (n >= longest) {
                    from = h;
                    longest = n;
                }
            }
            return pick(what, from, longest);
        }

        public int mirrors() {
            int best = -4;
            for (int bits = 15; bits >= 0; bits--) {
                boolean enough = true;
                for (int room = 0; room < 4; room++) {
                    enough &= s.lightIn(room, s.hour) * ((bits >> room & 1) + 1) >= s.need[room];
                }
                if (enough && (best < 0 || Integer.bitCount(bits) <= Integer.bitCount(best))) {
                    best = bits;
                }
            }
            return best;
        }

        private static long fraction(BigInteger above, BigInteger below, int part) {
            BigInteger g = above.gcd(below);
            return (part == 0 ? above : below).divide(g).longValueExact();
        }

        public long mean(int room, int part) {
            if (!in(room, 0, 3) || !in(part, 0, 1)) {
                return 1000000001L;
            }
            int sum = 0;
            for (int h = 0; h < 24; h++) {
                sum += s.lightIn(room, h);
            }
            return fraction(BigInteger.valueOf(sum), BigInteger.valueOf(24), part);
        }

        public int hidden() {
            int[] now = new int[24];
            for (int h = 0; h < 24; h++) {
                now[h] = s.lacking(h);
            }
            int most = -1;
            for (int bits = 0; bits < 1 << s.panes.size(); bits++) {
                if (Integer.bitCount(bits) > most) {
                    State t = s.stopping(bits);
                    boolean so = true;
                    for (int h = 0; h < 24 && so; h++) {
                        so = (t.lacking(h) & ~now[h]) == 0;
                    }
                    most = so ? Integer.bitCount(bits) : most;
                }
            }
            return most;
        }

        public int looks() {
            List<Integer> sets = new ArrayList<>();
            for (int a = 0; a < 24; a++) {
                for (int b = a; b < 24; b++) {
                    for (int c = b; c < 24; c++) {
                        sets.add(1 << a | 1 << b | 1 << c);
                    }
                }
            }
            sets.add(0);
            sets.sort((p, q) -> Integer.bitCount(p) != Integer.bitCount(q)
                    ? Integer.bitCount(p) - Integer.bitCount(q) : p - q);
            List<Integer> moves = new ArrayList<>();
            for (Pane p : s.open()) {
                int bits = 0;
                for (int h = 0; h < 24; h++) {
                    bits += p.moves(h) ? 1 << h : 0;
                }
                moves.add(bits);
            }
            for (int set : sets) {
                Set<Integer> seen = new HashSet<>();
                for (int m : moves) {
                    seen.add(m & set);
                }
                if (seen.size() == moves.size()) {
                    return set;
                }
            }
            return -4;
        }

        public int mostMoving(int what) {
            int hour = 23;
            for (int h = 23; h >= 0; h--) {
                hour = s.movingAt(h) >= s.movingAt(hour) ? h : hour;
            }
            return pick(what, hour, (int) s.movingAt(hour));
        }

        public int taken(int v) {
            if (!in(v, 0, 20)) {
                return -1;
            }
            int bits = 0;
            for (int w = 0; w < s.panes.size(); w++) {
                Pane p = s.panes.get(w);
                bits += !p.stopped && p.seems(s.hour) >= v && p.shines(s.hour) == 0 ? 1 << w : 0;
            }
            return bits;
        }

        public int bestHour(int w) {
            if (none(w)) {
                return -1;
            }
            Pane p = s.panes.get(w);
            if (!(p instanceof Painted)) {
                return -4;
            }
            int best = 23;
            for (int h = 23; h >= 0; h--) {
                best = p.seems(h) >= p.seems(best) ? h : best;
            }
            return best;
        }

        /** The assessor's most, and 10000 for an hour for his first. */
        private int[] played(List<Integer> hours, Set<Pane> open, int n) {
            if (n == 0) {
                return new int[] {0, -4};
            }
            int[] best = {-1, -4};
            for (int hour : hours) {
                int seen = 0;
                for (Pane p : open) {
                    seen += p.moves(hour) ? p.figure + 1 : 0;
                }
                List<Integer> rest = new ArrayList<>(hours);
                rest.remove((Integer) hour);
                int least = played(rest, open, n - 1)[0];
                for (Pane p : new ArrayList<>(open)) {
                    Set<Pane> fewer = new HashSet<>(open);
                    fewer.remove(p);
                    least = Math.min(least, played(rest, fewer, n - 1)[0]);
                }
                if (seen + least > best[0]) {
                    best = new int[] {seen + least, hour};
                }
            }
            return best;
        }

        public int game(int n, int what) {
            if (!in(n, 0, 4) || !in(what, 0, 1)) {
                return -1;
            }
            // What never moves can be left out: the house may stop none instead.
            Set<Pane> open = new HashSet<>();
            for (Pane p : s.open()) {
                if (p.moves(0) || p.moves(6) || p.moves(12) || p.moves(18)) {
                    open.add(p);
                }
            }
            return played(Arrays.asList(0, 6, 12, 18), open, n)[what];
        }

        public int suitor(int what) {
            int first = s.greatestSeeming(s.hour);
            int days = -4;
            for (int n = 23; n >= 0 && first >= 0; n--) {
                int other = s.greatestSeeming((s.hour + n) % 24);
                days = other >= 0 && other != first ? n : days;
            }
            return pick(what, first, days);
        }

        public int twins(int what) {
            List<String> told = new ArrayList<>();
            for (int w = 0; w < s.panes.size(); w++) {
                StringBuilder sb = new StringBuilder();
                for (int h = 0; h < 24; h++) {
                    sb.append(at(w, h, 0)).append(at(w, h, 1) == 1 ? "m " : " ");
                }
                told.add(sb.toString());
            }
            List<Integer> pairs = new ArrayList<>();
            for (int w = 0; w < told.size(); w++) {
                for (int v = 0; v < w; v++) {
                    if (told.get(v).equals(told.get(w))) {
                        pairs.add(10 * v + w);
                    }
                }
            }
            return pick(what, pairs.size(), pairs.isEmpty() ? -4 : Collections.min(pairs));
        }

        public int whatWas(int d, int f, int h, int what) {
            if (!in(f, 0, 9) || !in(h, 0, 23) || !in(what, 0, 1)) {
                return -1;
            }
            int r = shelfRefusal(d, true);
            if (r < 0) {
                return r;
            }
            Told t = (Told) shelves[d];
            if (t.elements.length > 24) {
                return -13;
            }
            int bits = 255;
            for (int k = 0; k < 8; k++) {
                Pane p = pane(k, f, 0, h);
                for (int i = 0; i < t.elements.length; i++) {
                    if (t.elements[i] != untold(t) && t.elements[i] != p.shines(i)) {
                        bits &= ~(1 << k);
                    }
                }
            }
            return pick(what, bits, Integer.bitCount(bits));
        }

        public int paidOff(int p) {
            if (!in(p, 0, 999)) {
                return -1;
            }
            State t = s.copied();
            for (int y = 0; y <= 60; y++) {
                if (y > 0) {
                    t.pass(s.hour);
                    t.owed -= p < t.owed ? p : t.owed;
                }
                if (t.owed == 0) {
                    return y;
                }
            }
            return -4;
        }

        public long rain(int t, int n, int k, int part) {
            if (!in(t, 2, 20) || !in(n, 0, 8) || !in(k, 0, 8) || !in(part, 0, 1)) {
                return 1000000001L;
            }
            BigInteger above = BigInteger.ZERO;
            for (int wet = 0; wet < 1 << n; wet++) {
                if (Integer.bitCount(wet) >= k) {
                    above = above.add(BigInteger.valueOf(t - 1).pow(n - Integer.bitCount(wet)));
                }
            }
            return fraction(above, BigInteger.valueOf(t).pow(n), part);
        }

        public int loophole() {
            int best = -4;
            int least = s.dueAll();
            for (int w = 0; w < s.panes.size(); w++) {
                for (int k = 0; k < 8; k++) {
                    State t = s.copied();
                    Pane p = t.panes.get(w);
                    Pane q = pane(k, p.figure, p.room, p.facing);
                    q.stopped = p.stopped;
                    t.panes.set(w, q);
                    boolean so = t.dueAll() < least;
                    for (int room = 0; room < 4; room++) {
                        int light = t.lightIn(room, s.hour);
                        so &= light >= s.need[room] || light >= s.lightIn(room, s.hour);
                    }
                    if (so) {
                        best = 10 * w + k;
                        least = t.dueAll();
                    }
                }
            }
            return best;
        }

        public int forged(int d) {
            int r = shelfRefusal(d, true);
            if (r < 0) {
                return r;
            }
            Told t = (Told) shelves[d];
            int latest = 0;
            for (int from = 0; from < 24; from++) {
                int i = 0;
                while (i < t.elements.length && t.elements[i] == s.movingAt((from + i) % 24)) {
                    i++;
                }
                latest = Math.max(latest, i);
            }
            return latest == t.elements.length ? -4 : latest;
        }

        public int judge(int d) {
            int r = shelfRefusal(d, true);
            if (r < 0) {
                return r;
            }
            Told t = (Told) shelves[d];
            State later = s.copied();
            for (int i = 0; i < t.elements.length; i++) {
                if (t.elements[i] != untold(t) && t.elements[i] != later.owed) {
                    return i;
                }
                later.pass(s.hour);
            }
            return -4;
        }

        public int lots(int n, int z, int what) {
            if (!in(n, 1, 20)) {
                return -1;
            }
            BigInteger modulus = BigInteger.ONE.shiftLeft(32);
            BigInteger seed = BigInteger.valueOf(z);
            int more = 0;
            int moved = 0;
            for (int i = 0; i < n; i++) {
                State t = s.copied();
                for (int y = 0; y < 10; y++) {
                    seed = seed.multiply(BigInteger.valueOf(1103515245)).add(BigInteger.valueOf(12345)).mod(modulus);
                    int hour = seed.clearBit(31).shiftRight(16).intValueExact() % 24;
                    t.pass(hour);
                    moved += t.movingAt(hour) > 0 ? 1 : 0;
                }
                more += t.owed - s.owed;
            }
            return pick(what, more, moved);
        }

        public int image() {
            saved = s.copied();
            return s.year;
        }

        public int restore() {
            if (saved == null) {
                return -3;
            }
            s = saved.copied();
            return s.year;
        }

        public int count(int what) {
            int bits = 0;
            for (int w = 0; w < s.panes.size(); w++) {
                bits += s.panes.get(w).stopped ? 1 << w : 0;
            }
            int[] counts = {s.panes.size(), s.hour, s.year, s.owed, s.rate, bits, Arrays.stream(s.need).sum(),
                lightAt(s.hour)};
            return in(what, 0, 7) ? counts[what] : -1;
        }

        public int keep(int d, int what, int k, int figure) {
            if (!in(d, 0, 7) || !in(what, 0, 1) || what == 1 && !(in(k, 0, 7) && in(figure, 0, 9))) {
                return -1;
            }
            shelves[d] = what == 0 ? null : pane(k, figure, 0, 0);
            return 0;
        }

        public int row(int d, int sort, int n) {
            if (!in(d, 0, 7) || !in(sort, 0, 2) || n > 100) {
                return -1;
            }
            if (n < 0) {
                return -14;
            }
            Told t = new Told();
            t.sort = sort;
            t.elements = new int[n];
            shelves[d] = t;
            return 0;
        }

        public int put(int d, int i, int v) {
            int r = shelfRefusal(d, true);
            if (r < 0) {
                return r;
            }
            Told t = (Told) shelves[d];
            if (!in(i, 0, t.elements.length - 1)) {
                return -13;
            }
            t.elements[i] = new int[] {(byte) v, (short) v, v}[t.sort];
            return 0;
        }

        public long element(int d, int i) {
            int r = shelfRefusal(d, true);
            if (r == -1) {
                throw new IllegalArgumentException();
            }
            if (r < 0 || !in(i, 0, ((Told) shelves[d]).elements.length - 1)) {
                throw new IllegalStateException();
            }
            return ((Told) shelves[d]).elements[i];
        }

        public int copy(int d, int i, int e, int j, int n) {
            if (!in(d, 0, 7) || !in(e, 0, 7)) {
                return -1;
            }
            if (shelves[d] == null || shelves[e] == null) {
                return -11;
            }
            if (shelfRefusal(d, true) < 0 || shelfRefusal(e, true) < 0) {
                return -12;
            }
            Told from = (Told) shelves[d];
            Told to = (Told) shelves[e];
            if (from.sort != to.sort) {
                return -12;
            }
            if (i < 0 || j < 0 || n < 0 || (long) i + n > from.elements.length
                    || (long) j + n > to.elements.length) {
                return -13;
            }
            int[] was = from.elements.clone();
            for (int k = 0; k < n; k++) {
                to.elements[j + k] = was[i + k];
            }
            return n;
        }

        public int cost(int d) {
            int r = shelfRefusal(d, false);
            return r < 0 ? r : ((Pane) shelves[d]).costs();
        }

        public int toss(int d) {
            int r = shelfRefusal(d, false);
            return r < 0 ? r : ((Pane) shelves[d]).fails();
        }
    }

    // ---- drawn runs

    /** A call, how often it is drawn, and the greatest ordinary number of each argument. */
    private static final String[] DRAWN = {
        "house 2 7", "window 3 8 5", "at 4 8 23 2", "builds 7 7 3 23", "stops 3 8", "needs 4 3 9", "set 5 1 23",
        "years 2 99", "pays 2 999", "light 3 3 23", "allDue 2", "stop 3 1", "dark 3", "darkest 3", "bright 4 1",
        "mirrors 3", "mean 3 3 1", "hidden 2", "looks 3", "mostMoving 4 1", "taken 4 18", "bestHour 4 8",
        "game 2 4 1", "suitor 5 1", "twins 3 1", "whatWas 4 7 9 23 1", "paidOff 3 999", "rain 3 20 8 8 1",
        "loophole 4", "forged 4 7", "judge 4 7", "lots 2 20 1000000 1", "image 1", "restore 1", "count 5 7",
        "keep 7 7 1 7 9", "row 4 7 2 30", "put 6 7 30 300", "element 4 7 30", "copy 4 7 10 7 10 10", "cost 3 7",
        "toss 3 7",
    };

    private static final Random RANDOM = new Random(20261118);
    private static int wrong = 0;

    private static Object answer(Object of, Method m, Object[] args) throws IllegalAccessException {
        try {
            return ((Number) m.invoke(of, args)).longValue();
        } catch (InvocationTargetException e) {
            return e.getCause().getClass().getName();
        }
    }

    private static void compare(int run, Object x, Object model, String name, int... args)
            throws ReflectiveOperationException {
        Class<?>[] types = new Class<?>[args.length];
        Arrays.fill(types, int.class);
        Object[] boxed = Arrays.stream(args).boxed().toArray();
        Object got = answer(x, BrickedUpAsBlind.class.getMethod(name, types), boxed);
        Object want = answer(model, Model.class.getMethod(name, types), boxed);
        if (!got.equals(want)) {
            wrong++;
            if (wrong <= 20) {
                System.out.println("run " + run + ": " + name + Arrays.toString(args) + " answered " + got
                        + ", due is " + want);
            }
        }
    }

    private static int drawn(int most) {
        int odds = RANDOM.nextInt(200);
        if (odds == 0) {
            return new int[] {Integer.MIN_VALUE, Integer.MAX_VALUE, -1000000, 65536}[RANDOM.nextInt(4)];
        }
        if (odds < 4) {
            return RANDOM.nextInt(40) - 5;
        }
        return odds < 12 ? RANDOM.nextInt(most + 3) - 1 : RANDOM.nextInt(most + 1);
    }

    private static String drawnText(Model model) {
        StringBuilder text = new StringBuilder();
        int statements = RANDOM.nextInt(14) + (RANDOM.nextInt(20) == 0 ? 0 : 1);
        for (int i = 0; i < statements; i++) {
            String[] forms = {"w" + RANDOM.nextInt(8) + RANDOM.nextInt(10) + RANDOM.nextInt(4) + two(24),
                "w" + RANDOM.nextInt(8) + RANDOM.nextInt(10) + "0" + two(24), "n" + RANDOM.nextInt(4) + two(21),
                "n0" + two(12), "h" + two(24), "r" + (1 + RANDOM.nextInt(9)), "y" + two(15), "y" + two(99),
                "p0" + two(60), "s" + RANDOM.nextInt(3)};
            text.append(forms[RANDOM.nextInt(forms.length)]).append(';');
        }
        if (text.length() > 0 && RANDOM.nextInt(3) == 0) {
            String signs = "wnshryp0123456789;;; x\377";
            text.setCharAt(RANDOM.nextInt(text.length()), signs.charAt(RANDOM.nextInt(signs.length())));
        }
        text.setLength(Math.min(text.length(), RANDOM.nextInt(12) == 0 ? RANDOM.nextInt(100) : 100));
        return text.toString();
    }

    private static String two(int below) {
        int n = RANDOM.nextInt(below);
        return n < 10 ? "0" + n : "" + n;
    }

    /** Rows that tell nearly what is so, for whatWas, forged and judge. */
    private static int[] tellingRow(Model model) {
        int kind = RANDOM.nextInt(3);
        int from = RANDOM.nextInt(24);
        int n = RANDOM.nextInt(kind == 1 ? 60 : 24);
        int[] told = new int[n];
        State later = model.s.copied();
        Pane p = pane(RANDOM.nextInt(8), RANDOM.nextInt(10), 0, RANDOM.nextInt(24));
        for (int i = 0; i < n; i++) {
            told[i] = kind == 0 ? p.shines(i) : kind == 1 ? (int) model.s.movingAt((from + i) % 24) : later.owed;
            later.pass(model.s.hour);
        }
        if (n > 0 && RANDOM.nextInt(2) == 0) {
            told[RANDOM.nextInt(n)] += RANDOM.nextInt(3) - 1;
        }
        if (n > 0 && kind != 1 && RANDOM.nextInt(2) == 0) {
            told[RANDOM.nextInt(n)] = new int[] {-128, -32768, Integer.MIN_VALUE}[RANDOM.nextInt(3)];
        }
        return told;
    }

    private static void tell(int run, Object x, Object model, int d, int sort, int[] told)
            throws ReflectiveOperationException {
        compare(run, x, model, "row", d, sort, told.length);
        for (int i = 0; i < told.length; i++) {
            compare(run, x, model, "put", d, i, told[i]);
        }
    }

    private static void composite(int run, Object x, Model model) throws ReflectiveOperationException {
        int d = RANDOM.nextInt(8);
        int form = RANDOM.nextInt(4);
        if (form == 0) {
            String text = drawnText(model);
            tell(run, x, model, d, 0, text.chars().toArray());
            compare(run, x, model, "house", d);
        } else if (form == 1) {
            compare(run, x, model, "keep", d, 1, RANDOM.nextInt(8), RANDOM.nextInt(10));
            compare(run, x, model, "builds", d, RANDOM.nextInt(3) / 2, RANDOM.nextInt(24));
        } else {
            tell(run, x, model, d, RANDOM.nextInt(3), tellingRow(model));
            compare(run, x, model, "forged", d);
            compare(run, x, model, "judge", d);
            for (int k = 0; k < 5; k++) {
                compare(run, x, model, "whatWas", d, RANDOM.nextInt(10), RANDOM.nextInt(24), RANDOM.nextInt(2));
            }
        }
    }

    private static void run(int run, List<String> calls) throws ReflectiveOperationException {
        BrickedUpAsBlind x = new BrickedUpAsBlind();
        Model model = new Model();
        for (int i = 0; i < CALLS; i++) {
            if (RANDOM.nextInt(16) == 0) {
                composite(run, x, model);
                continue;
            }
            String[] call = calls.get(RANDOM.nextInt(calls.size())).split(" ");
            int[] args = new int[call.length - 2];
            for (int a = 0; a < args.length; a++) {
                args[a] = drawn(Integer.parseInt(call[a + 2]));
            }
            compare(run, x, model, call[0], args);
        }
        for (int what = 0; what < 8; what++) {
            compare(run, x, model, "count", what);
        }
    }

    public static void main(String[] args) throws ReflectiveOperationException {
        List<String> calls = new ArrayList<>();
        Set<String> names = new HashSet<>();
        for (String call : DRAWN) {
            names.add(call.split(" ")[0]);
            calls.addAll(Collections.nCopies(Integer.parseInt(call.split(" ")[1]), call));
        }
        for (Method m : BrickedUpAsBlind.class.getDeclaredMethods()) {
            if (Modifier.isPublic(m.getModifiers()) && !names.contains(m.getName())) {
                wrong++;
                System.out.println(m.getName() + " is never drawn");
            }
        }
        for (int run = 0; run < RUNS; run++) {
            run(run, calls);
        }
        System.out.println(wrong == 0 ? "all answers are as the model's" : wrong + " answers are not as the model's");
        if (wrong != 0) {
            System.exit(1);
        }
    }
}
