/**
 * A house of rooms with windows of kinds, true, painted and blind, the dues on
 * them, and what can be asked of them; ../shared/DOC.md tells what each call answers.
 */
public final class BrickedUpAsBlind {
    private static final int NO_SUCH = -1;
    private static final int NO_ROOM = -2;
    private static final int NOT_AS_IT_MUST = -3;
    private static final int NONE = -4;
    private static final int NOTHING_HELD = -11;
    private static final int ANOTHER_KIND = -12;
    private static final int NO_PLACE = -13;
    private static final int BELOW_ZERO = -14;
    private static final int NO_FAILURE = -15;
    private static final long REFUSED = 1000000000L;

    private static final int SHELVES = 8;

    private final House now;
    private final House imaged;
    /** A house to try changes on; its contents count only within one call. */
    private final House draft;
    private final Shelf[] shelves;
    private boolean hasImage;

    public BrickedUpAsBlind() {
        now = new House();
        imaged = new House();
        draft = new House();
        hasImage = false;
        shelves = new Shelf[SHELVES];
        for (int d = 0; d < SHELVES; d++) {
            shelves[d] = new Shelf();
        }
    }

    // ---- the house as told

    public int house(int d) {
        if (!isShelf(d)) {
            return NO_SUCH;
        }
        Shelf text = shelves[d];
        int refusal = text.refusalAsRow();
        if (refusal < 0) {
            return refusal;
        }
        if (text.sort != Shelf.BYTES) {
            return ANOTHER_KIND;
        }
        int fault = Text.faultyByte(text);
        if (fault >= 0) {
            return -1000 - fault;
        }
        draft.become(now);
        int statements = Text.carryOut(text, draft);
        if (statements >= 0) {
            now.become(draft);
        }
        return statements;
    }

    public int window(int w, int what) {
        if (!now.isWindow(w)) {
            return NO_SUCH;
        }
        switch (what) {
            case 0:
                return now.kinds[w];
            case 1:
                return now.figures[w];
            case 2:
                return now.rooms[w];
            case 3:
                return now.facings[w];
            case 4:
                return now.isStopped(w) ? 1 : 0;
            case 5:
                return Kinds.due(now.kinds[w], now.figures[w]);
            default:
                return NO_SUCH;
        }
    }

    public int at(int w, int hour, int what) {
        if (!now.isWindow(w) || !House.isHour(hour)) {
            return NO_SUCH;
        }
        switch (what) {
            case 0:
                return now.shineOf(w, hour);
            case 1:
                return now.isMoving(w, hour) ? 1 : 0;
            case 2:
                return now.seemingOf(w, hour);
            default:
                return NO_SUCH;
        }
    }

    public int builds(int d, int room, int facing) {
        if (!isShelf(d) || !House.isRoom(room) || !House.isHour(facing)) {
            return NO_SUCH;
        }
        Shelf shelf = shelves[d];
        int refusal = shelf.refusalAsKind();
        if (refusal < 0) {
            return refusal;
        }
        return now.addWindow(shelf.kind, shelf.figure, room, facing);
    }

    public int stops(int w) {
        return now.turnStopped(w);
    }

    public int needs(int room, int v) {
        return now.changeNeed(room, v);
    }

    public int set(int what, int v) {
        switch (what) {
            case 0:
                return now.changeHour(v);
            case 1:
                return now.changeRate(v);
            default:
                return NO_SUCH;
        }
    }

    public int years(int n) {
        return now.passYears(n);
    }

    public int pays(int v) {
        return now.payOff(v);
    }

    // ---- light

    public int light(int room, int hour) {
        if (!House.isRoom(room) || !House.isHour(hour)) {
            return NO_SUCH;
        }
        return now.roomLight(room, hour);
    }

    public int allDue() {
        return now.openDues();
    }

    public int stop(int what) {
        if (!isZeroOrOne(what)) {
            return NO_SUCH;
        }
        draft.become(now);
        int bits = Lamps.cheapestStops(draft);
        if (bits < 0 || what == 0) {
            return bits;
        }
        draft.stopped = bits;
        return draft.openDues();
    }

    public int dark() {
        return Lamps.darkHours(now);
    }

    public int darkest() {
        return Lamps.darkestHour(now);
    }

    public int bright(int what) {
        if (!isZeroOrOne(what)) {
            return NO_SUCH;
        }
        int from = Lamps.longestBrightFrom(Lamps.darkHours(now));
        return what == 0 ? from : Lamps.brightStretch(Lamps.darkHours(now), from);
    }

    public int mirrors() {
        return Lamps.fewestMirrors(now);
    }

    public long mean(int room, int part) {
        if (!House.isRoom(room) || !isZeroOrOne(part)) {
            return REFUSED - NO_SUCH;
        }
        return Odds.leastTerms(Lamps.dayLight(now, room), House.HOURS, part);
    }

    public int hidden() {
        draft.become(now);
        return Lamps.mostStopped(now, draft);
    }

    // ---- what moves, what seems

    public int looks() {
        return Watch.fewestLooks(now);
    }

    public int mostMoving(int what) {
        if (!isZeroOrOne(what)) {
            return NO_SUCH;
        }
        int hour = Watch.liveliestHour(now);
        return what == 0 ? hour : now.movingAt(hour);
    }

    public int taken(int v) {
        if (!House.isWithin(v, 0, 20)) {
            return NO_SUCH;
        }
        return Watch.takenForTrue(now, v);
    }

    public int bestHour(int w) {
        if (!now.isWindow(w)) {
            return NO_SUCH;
        }
        return Watch.seemingHour(now, w);
    }

    public int game(int n, int what) {
        if (!House.isWithin(n, 0, Play.LOOKS) || !isZeroOrOne(what)) {
            return NO_SUCH;
        }
        return what == 0 ? Play.mostDue(now, n) : Play.firstHour(now, n);
    }

    public int suitor(int what) {
        if (!isZeroOrOne(what)) {
            return NO_SUCH;
        }
        return what == 0 ? Watch.addressed(now, now.hour) : Watch.daysToAnother(now);
    }

    public int twins(int what) {
        if (!isZeroOrOne(what)) {
            return NO_SUCH;
        }
        return what == 0 ? Watch.twinPairs(now) : Watch.firstTwins(now);
    }

    // ---- dues

    public int whatWas(int d, int f, int h, int what) {
        if (!isShelf(d) || !Kinds.isFigure(f) || !House.isHour(h) || !isZeroOrOne(what)) {
            return NO_SUCH;
        }
        Shelf told = shelves[d];
        int refusal = told.refusalAsRow();
        if (refusal < 0) {
            return refusal;
        }
        if (told.length > House.HOURS) {
            return NO_PLACE;
        }
        int kinds = Lamps.kindsThatShine(told, f, h);
        return what == 0 ? kinds : Integer.bitCount(kinds);
    }

    public int paidOff(int p) {
        if (!House.isPayment(p)) {
            return NO_SUCH;
        }
        return Ledger.yearPaidOff(now, p);
    }

    public long rain(int t, int n, int k, int part) {
        if (!House.isWithin(t, 2, 20) || !House.isWithin(n, 0, 8)
                || !House.isWithin(k, 0, 8) || !isZeroOrOne(part)) {
            return REFUSED - NO_SUCH;
        }
        return Odds.leastTerms(Odds.wetWays(t, n, k), Odds.power(t, n), part);
    }

    public int loophole() {
        draft.become(now);
        return Ledger.cheapestChange(now, draft);
    }

    // ---- told hours, told years

    public int forged(int d) {
        if (!isShelf(d)) {
            return NO_SUCH;
        }
        int refusal = shelves[d].refusalAsRow();
        return refusal < 0 ? refusal : Ledger.forgedPlace(now, shelves[d]);
    }

    public int judge(int d) {
        if (!isShelf(d)) {
            return NO_SUCH;
        }
        int refusal = shelves[d].refusalAsRow();
        return refusal < 0 ? refusal : Ledger.wrongYear(now, shelves[d]);
    }

    public int lots(int n, int z, int what) {
        if (!House.isWithin(n, 1, 20) || !isZeroOrOne(what)) {
            return NO_SUCH;
        }
        return Ledger.drawnYears(now, n, z, what);
    }

    // ---- the image, what is told

    public int image() {
        imaged.become(now);
        hasImage = true;
        return now.year;
    }

    public int restore() {
        if (!hasImage) {
            return NOT_AS_IT_MUST;
        }
        now.become(imaged);
        return now.year;
    }

    public int count(int what) {
        switch (what) {
            case 0:
                return now.windows;
            case 1:
                return now.hour;
            case 2:
                return now.year;
            case 3:
                return now.owed;
            case 4:
                return now.rate;
            case 5:
                return now.stopped;
            case 6:
                return now.allNeeds();
            case 7:
                return now.wholeLight(now.hour);
            default:
                return NO_SUCH;
        }
    }

    // ---- shelves

    public int keep(int d, int what, int k, int figure) {
        if (!isShelf(d) || !isZeroOrOne(what)) {
            return NO_SUCH;
        }
        if (what == 0) {
            shelves[d].clearOut();
            return 0;
        }
        if (!Kinds.isKind(k) || !Kinds.isFigure(figure)) {
            return NO_SUCH;
        }
        shelves[d].holdKind(k, figure);
        return 0;
    }

    public int row(int d, int sort, int n) {
        if (!isShelf(d) || !Shelf.isSort(sort) || n > Shelf.LONGEST) {
            return NO_SUCH;
        }
        if (n < 0) {
            return BELOW_ZERO;
        }
        shelves[d].holdRow(sort, n);
        return 0;
    }

    public int put(int d, int i, int v) {
        if (!isShelf(d)) {
            return NO_SUCH;
        }
        Shelf shelf = shelves[d];
        int refusal = shelf.refusalAsRow();
        if (refusal < 0) {
            return refusal;
        }
        if (!shelf.isPlace(i)) {
            return NO_PLACE;
        }
        shelf.write(i, v);
        return 0;
    }

    public long element(int d, int i) throws IllegalArgumentException, IllegalStateException {
        if (!isShelf(d)) {
            throw new IllegalArgumentException("no such shelf");
        }
        Shelf shelf = shelves[d];
        if (shelf.refusalAsRow() < 0) {
            throw new IllegalStateException("no row");
        }
        if (!shelf.isPlace(i)) {
            throw new IllegalStateException("no such place");
        }
        return shelf.elements[i];
    }

    public int copy(int d, int i, int e, int j, int n) {
        if (!isShelf(d) || !isShelf(e)) {
            return NO_SUCH;
        }
        Shelf from = shelves[d];
        Shelf to = shelves[e];
        if (from.content == Shelf.NOTHING || to.content == Shelf.NOTHING) {
            return NOTHING_HELD;
        }
        if (from.content != Shelf.ROW || to.content != Shelf.ROW || from.sort != to.sort) {
            return ANOTHER_KIND;
        }
        if (!from.isStretch(i, n) || !to.isStretch(j, n)) {
            return NO_PLACE;
        }
        System.arraycopy(from.elements, i, to.elements, j, n);
        return n;
    }

    public int cost(int d) {
        if (!isShelf(d)) {
            return NO_SUCH;
        }
        int refusal = shelves[d].refusalAsKind();
        return refusal < 0 ? refusal : Kinds.price(shelves[d].kind, shelves[d].figure);
    }

    public int toss(int d) {
        if (!isShelf(d)) {
            return NO_SUCH;
        }
        int refusal = shelves[d].refusalAsKind();
        return refusal < 0 ? refusal : Kinds.caughtFailure(shelves[d].kind, shelves[d].figure);
    }

    private static boolean isShelf(int d) {
        return d >= 0 && d < SHELVES;
    }

    private static boolean isZeroOrOne(int what) {
        return what == 0 || what == 1;
    }

    /** What each KIND of WINDOW is like, whichever WINDOW is of it. */
    private static final class Kinds {
        static final int WINDOW = 0;
        static final int PAINTED = 1;
        static final int BLIND = 2;
        static final int CAT = 3;
        static final int CURTAIN = 4;
        static final int LATTICE = 5;
        static final int MAID = 6;
        static final int SUITOR = 7;
        static final int ALL = 8;

        static boolean isKind(int kind) {
            return kind >= 0 && kind < ALL;
        }

        static boolean isFigure(int figure) {
            return figure >= 0 && figure <= 9;
        }

        static boolean isPainted(int kind) {
            return kind == PAINTED || kind == CAT || kind == CURTAIN || kind == MAID;
        }

        static int apart(int hour, int other) {
            int way = hour < other ? other - hour : hour - other;
            return way <= House.HOURS / 2 ? way : House.HOURS - way;
        }

        static int shine(int kind, int figure, int apart) {
            int open = apart <= 2 ? figure + 3 : apart >= 7 ? figure / 2 : figure;
            switch (kind) {
                case WINDOW:
                    return open;
                case LATTICE:
                    return open / 2;
                case SUITOR:
                    return open / 2 + 1;
                default:
                    return 0;
            }
        }

        static int due(int kind, int figure) {
            int window = 2 + figure;
            int lattice = window - 1;
            switch (kind) {
                case WINDOW:
                    return window;
                case BLIND:
                    return 0;
                case CAT:
                    return 1 + figure;
                case LATTICE:
                    return lattice;
                case SUITOR:
                    return 2 * lattice;
                default:
                    return 1;
            }
        }

        static boolean moves(int kind, int figure, int apart, int hour) {
            switch (kind) {
                case CAT:
                    return hour % 2 == 0;
                case CURTAIN:
                    return apart <= 1;
                case MAID:
                    return apart == 0;
                case SUITOR:
                    return figure >= 0 && hour % (figure + 1) == 0;
                default:
                    return false;
            }
        }

        static int seeming(int kind, int figure, int apart, int hour) {
            int painted = Math.max(0, figure - apart / 3);
            switch (kind) {
                case WINDOW:
                    return 9;
                case BLIND:
                    return 0;
                case CAT:
                    return moves(kind, figure, apart, hour) ? painted + 2 : painted;
                case MAID:
                    return 2 * painted;
                case LATTICE:
                case SUITOR:
                    return 8;
                default:
                    return painted;
            }
        }

        static int price(int kind, int figure) {
            int window = 5;
            int painted = window + figure;
            int lattice = window + 2;
            switch (kind) {
                case WINDOW:
                    return window;
                case BLIND:
                    return window - 4;
                case CAT:
                    return painted + 1;
                case CURTAIN:
                    return 2 * painted;
                case LATTICE:
                    return lattice;
                case MAID:
                    return painted - 1;
                case SUITOR:
                    return lattice / 2;
                default:
                    return painted;
            }
        }

        static int caughtFailure(int kind, int figure) {
            try {
                throwFailure(kind, figure);
                return NO_FAILURE;
            } catch (UnsupportedOperationException ofCurtain) {
                return 200 + price(kind, figure);
            } catch (IllegalStateException ofPainted) {
                return 100 + figure;
            } catch (IllegalArgumentException ofOther) {
                return figure;
            }
        }

        private static void throwFailure(int kind, int figure) {
            if (kind == BLIND || kind == SUITOR || figure == 0) {
                return;
            }
            if (kind == CURTAIN) {
                throw new UnsupportedOperationException("a curtain fails");
            }
            if (isPainted(kind)) {
                throw new IllegalStateException("a painted one fails");
            }
            throw new IllegalArgumentException("a window fails");
        }
    }

    /** All that THE IMAGE holds: WINDOWS, NEEDS, HOUR, YEAR, OWED and RATE. */
    private static final class House {
        static final int WINDOWS = 8;
        static final int ROOMS = 4;
        static final int HOURS = 24;
        static final int LAST_YEAR = 999;
        static final int MOST_OWED = 99999;

        final int[] kinds;
        final int[] figures;
        final int[] rooms;
        final int[] facings;
        final int[] wants;
        int windows;
        /** One bit a WINDOW. */
        int stopped;
        int hour;
        int year;
        int owed;
        int rate;

        House() {
            kinds = new int[WINDOWS];
            figures = new int[WINDOWS];
            rooms = new int[WINDOWS];
            facings = new int[WINDOWS];
            wants = new int[ROOMS];
            windows = 0;
            stopped = 0;
            hour = 12;
            year = 0;
            owed = 0;
            rate = 1;
        }

        void become(House other) {
            System.arraycopy(other.kinds, 0, kinds, 0, WINDOWS);
            System.arraycopy(other.figures, 0, figures, 0, WINDOWS);
            System.arraycopy(other.rooms, 0, rooms, 0, WINDOWS);
            System.arraycopy(other.facings, 0, facings, 0, WINDOWS);
            System.arraycopy(other.wants, 0, wants, 0, ROOMS);
            windows = other.windows;
            stopped = other.stopped;
            hour = other.hour;
            year = other.year;
            owed = other.owed;
            rate = other.rate;
        }

        static boolean isWithin(int v, int least, int most) {
            return v >= least && v <= most;
        }

        static boolean isRoom(int room) {
            return isWithin(room, 0, ROOMS - 1);
        }

        static boolean isHour(int hour) {
            return isWithin(hour, 0, HOURS - 1);
        }

        static boolean isPayment(int v) {
            return isWithin(v, 0, 999);
        }

        boolean isWindow(int w) {
            return w >= 0 && w < windows;
        }

        boolean isStopped(int w) {
            return (stopped >> w & 1) != 0;
        }

        // Changes answer as the calls of the face do, so that THE TEXT can use them too.

        int addWindow(int kind, int figure, int room, int facing) {
            if (!Kinds.isKind(kind) || !Kinds.isFigure(figure) || !isRoom(room) || !isHour(facing)) {
                return NO_SUCH;
            }
            if (windows >= WINDOWS) {
                return NO_ROOM;
            }
            kinds[windows] = kind;
            figures[windows] = figure;
            rooms[windows] = room;
            facings[windows] = facing;
            windows++;
            return windows - 1;
        }

        int turnStopped(int w) {
            if (!isWindow(w)) {
                return NO_SUCH;
            }
            stopped ^= 1 << w;
            return isStopped(w) ? 1 : 0;
        }

        int changeNeed(int room, int v) {
            if (!isRoom(room) || !isWithin(v, 0, 20)) {
                return NO_SUCH;
            }
            int was = wants[room];
            wants[room] = v;
            return was;
        }

        int changeHour(int v) {
            if (!isHour(v)) {
                return NO_SUCH;
            }
            int was = hour;
            hour = v;
            return was;
        }

        int changeRate(int v) {
            if (!isWithin(v, 1, 9)) {
                return NO_SUCH;
            }
            int was = rate;
            rate = v;
            return was;
        }

        int passYears(int n) {
            if (!isWithin(n, 1, 99)) {
                return NO_SUCH;
            }
            if (year + n > LAST_YEAR) {
                return NOT_AS_IT_MUST;
            }
            for (int y = 0; y < n; y++) {
                owed = owedBehindYear(owed, hour);
            }
            year += n;
            return owed;
        }

        int payOff(int v) {
            if (!isPayment(v)) {
                return NO_SUCH;
            }
            if (v > owed) {
                return NOT_AS_IT_MUST;
            }
            owed -= v;
            return owed;
        }

        int shineOf(int w, int when) {
            return isStopped(w) ? 0 : Kinds.shine(kinds[w], figures[w], Kinds.apart(facings[w], when));
        }

        boolean isMoving(int w, int when) {
            return !isStopped(w) && Kinds.moves(kinds[w], figures[w], Kinds.apart(facings[w], when), when);
        }

        int seemingOf(int w, int when) {
            return isStopped(w) ? 0 : unstoppedSeeming(w, when);
        }

        int unstoppedSeeming(int w, int when) {
            return Kinds.seeming(kinds[w], figures[w], Kinds.apart(facings[w], when), when);
        }

        int roomLight(int room, int when) {
            int sum = 0;
            for (int w = 0; w < windows; w++) {
                if (rooms[w] == room) {
                    sum += shineOf(w, when);
                }
            }
            return sum;
        }

        int wholeLight(int when) {
            int sum = 0;
            for (int w = 0; w < windows; w++) {
                sum += shineOf(w, when);
            }
            return sum;
        }

        int allNeeds() {
            int sum = 0;
            for (int room = 0; room < ROOMS; room++) {
                sum += wants[room];
            }
            return sum;
        }

        /** By how much the ROOM lacks its NEED; 0, if it does not. */
        int lackOf(int room, int when) {
            return wants[room] == 0 ? 0 : Math.max(0, wants[room] - roomLight(room, when));
        }

        boolean isAnyLacking(int when) {
            for (int room = 0; room < ROOMS; room++) {
                if (lackOf(room, when) > 0) {
                    return true;
                }
            }
            return false;
        }

        /** ALL DUE. */
        int openDues() {
            int sum = 0;
            for (int w = 0; w < windows; w++) {
                if (!isStopped(w)) {
                    sum += Kinds.due(kinds[w], figures[w]);
                }
            }
            return sum * rate;
        }

        int movingAt(int when) {
            int moving = 0;
            for (int w = 0; w < windows; w++) {
                if (isMoving(w, when)) {
                    moving++;
                }
            }
            return moving;
        }

        int owedBehindYear(int owedAhead, int when) {
            int more = openDues();
            for (int w = 0; w < windows; w++) {
                if (isMoving(w, when)) {
                    more += (figures[w] + 1) * rate;
                }
            }
            return Math.min(MOST_OWED, owedAhead + more);
        }
    }

    /** One place that holds nothing, a KIND of WINDOW, or a ROW. */
    private static final class Shelf {
        static final int NOTHING = 0;
        static final int KIND = 1;
        static final int ROW = 2;

        static final int BYTES = 0;
        static final int SHORTS = 1;
        static final int INTS = 2;

        static final int LONGEST = 100;

        int content;
        int kind;
        int figure;
        int sort;
        int length;
        /** As long as any ROW may be, so that a new ROW makes no new array. */
        final int[] elements;

        Shelf() {
            content = NOTHING;
            kind = 0;
            figure = 0;
            sort = BYTES;
            length = 0;
            elements = new int[LONGEST];
        }

        static boolean isSort(int sort) {
            return sort == BYTES || sort == SHORTS || sort == INTS;
        }

        void clearOut() {
            content = NOTHING;
        }

        void holdKind(int newKind, int newFigure) {
            content = KIND;
            kind = newKind;
            figure = newFigure;
        }

        void holdRow(int newSort, int newLength) {
            content = ROW;
            sort = newSort;
            length = newLength;
            for (int i = 0; i < LONGEST; i++) {
                elements[i] = 0;
            }
        }

        /** The REFUSAL, if this holds no ROW; 0, if it holds one. */
        int refusalAsRow() {
            if (content == NOTHING) {
                return NOTHING_HELD;
            }
            return content == ROW ? 0 : ANOTHER_KIND;
        }

        /** The REFUSAL, if this holds no KIND of WINDOW; 0, if it holds one. */
        int refusalAsKind() {
            if (content == NOTHING) {
                return NOTHING_HELD;
            }
            return content == KIND ? 0 : ANOTHER_KIND;
        }

        boolean isPlace(int i) {
            return i >= 0 && i < length;
        }

        /** Written without a sum, which could wrap around. */
        boolean isStretch(int from, int n) {
            return n >= 0 && n <= length && from >= 0 && from <= length - n;
        }

        void write(int i, int v) {
            if (sort == BYTES) {
                elements[i] = (byte) v;
            } else if (sort == SHORTS) {
                elements[i] = (short) v;
            } else {
                elements[i] = v;
            }
        }

        /** The least number of the SORT, which stands for what is not told. */
        int untold() {
            if (sort == BYTES) {
                return -128;
            }
            return sort == SHORTS ? -32768 : -2147483648;
        }
    }

    /** THE TEXT of a HOUSE, in a ROW of bytes. */
    private static final class Text {
        private static final int NO_FAULT = -1;

        /** Where the FAULT of kind 1 stands; NO_FAULT, if there is none. */
        static int faultyByte(Shelf text) {
            int i = 0;
            do {
                int fault = faultyByteOfStatement(text, i);
                if (fault != NO_FAULT) {
                    return fault;
                }
                i += digitsBehind(text.elements[i]) + 2;
            } while (i < text.length);
            return NO_FAULT;
        }

        private static int faultyByteOfStatement(Shelf text, int start) {
            if (!text.isPlace(start)) {
                return text.length;
            }
            int digits = digitsBehind(text.elements[start]);
            if (digits == 0) {
                return start;
            }
            for (int i = start + 1; i <= start + digits; i++) {
                if (!text.isPlace(i)) {
                    return text.length;
                }
                if (!isDigit(text.elements[i])) {
                    return i;
                }
            }
            int end = start + digits + 1;
            if (!text.isPlace(end)) {
                return text.length;
            }
            return text.elements[end] == ';' ? NO_FAULT : end;
        }

        /** How many digits stand behind a STATEMENT's letter; 0, if it is none. */
        private static int digitsBehind(int letter) {
            switch (letter) {
                case 'w':
                    return 5;
                case 'n':
                case 'p':
                    return 3;
                case 'h':
                case 'y':
                    return 2;
                case 's':
                case 'r':
                    return 1;
                default:
                    return 0;
            }
        }

        private static boolean isDigit(int sign) {
            return sign >= '0' && sign <= '9';
        }

        /** How many STATEMENTS came to the house; the FAULT, if one can't. */
        static int carryOut(Shelf text, House house) {
            int statements = 0;
            for (int i = 0; i < text.length; i += digitsBehind(text.elements[i]) + 2) {
                if (answerTo(text, i, house) < 0) {
                    return -2000 - i;
                }
                statements++;
            }
            return statements;
        }

        private static int answerTo(Shelf text, int i, House house) {
            switch (text.elements[i]) {
                case 'w':
                    return house.addWindow(numberAt(text, i + 1, 1), numberAt(text, i + 2, 1),
                            numberAt(text, i + 3, 1), numberAt(text, i + 4, 2));
                case 'n':
                    return house.changeNeed(numberAt(text, i + 1, 1), numberAt(text, i + 2, 2));
                case 's':
                    return house.turnStopped(numberAt(text, i + 1, 1));
                case 'h':
                    return house.changeHour(numberAt(text, i + 1, 2));
                case 'r':
                    return house.changeRate(numberAt(text, i + 1, 1));
                case 'y':
                    return house.passYears(numberAt(text, i + 1, 2));
                case 'p':
                    return house.payOff(numberAt(text, i + 1, 3));
                default:
                    return NO_SUCH;
            }
        }

        private static int numberAt(Shelf text, int start, int digits) {
            int number = 0;
            for (int i = start; i < start + digits; i++) {
                if (text.isPlace(i)) {
                    number = number * 10 + text.elements[i] - '0';
                }
            }
            return number;
        }
    }

    /** What is asked of LIGHT. */
    private static final class Lamps {
        /** STOP; the house's own stops are changed while it is looked for. */
        static int cheapestStops(House house) {
            int best = NONE;
            int least = 0;
            for (int set = 0; set < 1 << house.windows; set++) {
                house.stopped = set;
                int due = house.openDues();
                if ((best < 0 || due < least) && !house.isAnyLacking(house.hour)) {
                    best = set;
                    least = due;
                }
            }
            return best;
        }

        static int darkHours(House house) {
            int bits = 0;
            for (int hour = 0; hour < House.HOURS; hour++) {
                if (house.isAnyLacking(hour)) {
                    bits |= 1 << hour;
                }
            }
            return bits;
        }

        static int darkestHour(House house) {
            int best = 0;
            for (int hour = 1; hour < House.HOURS; hour++) {
                if (house.wholeLight(hour) < house.wholeLight(best)) {
                    best = hour;
                }
            }
            return best;
        }

        static int longestBrightFrom(int dark) {
            int best = 0;
            for (int hour = 1; hour < House.HOURS; hour++) {
                if (brightStretch(dark, hour) > brightStretch(dark, best)) {
                    best = hour;
                }
            }
            return best;
        }

        static int brightStretch(int dark, int from) {
            for (int n = 0; n < House.HOURS; n++) {
                if ((dark >> (from + n) % House.HOURS & 1) != 0) {
                    return n;
                }
            }
            return House.HOURS;
        }

        static int fewestMirrors(House house) {
            int bits = 0;
            for (int room = 0; room < House.ROOMS; room++) {
                int lack = house.lackOf(room, house.hour);
                if (lack > house.roomLight(room, house.hour)) {
                    return NONE;
                }
                if (lack > 0) {
                    bits |= 1 << room;
                }
            }
            return bits;
        }

        static int dayLight(House house, int room) {
            int sum = 0;
            for (int hour = 0; hour < House.HOURS; hour++) {
                sum += house.roomLight(room, hour);
            }
            return sum;
        }

        /** HIDDEN; the stops are tried on the draft. */
        static int mostStopped(House house, House draft) {
            int most = 0;
            for (int set = 0; set < 1 << house.windows; set++) {
                draft.stopped = set;
                int size = Integer.bitCount(set);
                if (size > most && !isDarkerAnywhere(house, draft)) {
                    most = size;
                }
            }
            return most;
        }

        private static boolean isDarkerAnywhere(House house, House draft) {
            for (int room = 0; room < House.ROOMS; room++) {
                for (int hour = 0; hour < House.HOURS; hour++) {
                    if (draft.lackOf(room, hour) > 0 && house.lackOf(room, hour) == 0) {
                        return true;
                    }
                }
            }
            return false;
        }

        static int kindsThatShine(Shelf told, int figure, int facing) {
            int bits = 0;
            for (int kind = 0; kind < Kinds.ALL; kind++) {
                if (isShineOf(told, kind, figure, facing)) {
                    bits |= 1 << kind;
                }
            }
            return bits;
        }

        private static boolean isShineOf(Shelf told, int kind, int figure, int facing) {
            for (int hour = 0; hour < told.length; hour++) {
                int light = told.elements[hour];
                if (light != told.untold() && light != Kinds.shine(kind, figure, Kinds.apart(facing, hour))) {
                    return false;
                }
            }
            return true;
        }
    }

    /** What is asked of what MOVES and SEEMS. */
    private static final class Watch {
        private static final int OUT_OF_VIEW = -1;

        /** LOOKS: greatest hours outermost, so that the first found are the least bits. */
        static int fewestLooks(House house) {
            int[] moves = movingHours(house);
            if (areAllUnlike(moves, 0)) {
                return 0;
            }
            for (int a = 0; a < House.HOURS; a++) {
                if (areAllUnlike(moves, 1 << a)) {
                    return 1 << a;
                }
            }
            for (int a = 1; a < House.HOURS; a++) {
                for (int b = 0; b < a; b++) {
                    if (areAllUnlike(moves, 1 << a | 1 << b)) {
                        return 1 << a | 1 << b;
                    }
                }
            }
            return leastOfThreeLooks(moves);
        }

        private static int leastOfThreeLooks(int[] moves) {
            for (int a = 2; a < House.HOURS; a++) {
                for (int b = 1; b < a; b++) {
                    for (int c = 0; c < b; c++) {
                        int hours = 1 << a | 1 << b | 1 << c;
                        if (areAllUnlike(moves, hours)) {
                            return hours;
                        }
                    }
                }
            }
            return NONE;
        }

        /** Of each WINDOW the hours (bits) at which it MOVES; OUT_OF_VIEW, if it is not to be told. */
        private static int[] movingHours(House house) {
            int[] moves = new int[House.WINDOWS];
            for (int w = 0; w < House.WINDOWS; w++) {
                moves[w] = !house.isWindow(w) || house.isStopped(w) ? OUT_OF_VIEW : movingHoursOf(house, w);
            }
            return moves;
        }

        private static int movingHoursOf(House house, int w) {
            int bits = 0;
            for (int hour = 0; hour < House.HOURS; hour++) {
                if (house.isMoving(w, hour)) {
                    bits |= 1 << hour;
                }
            }
            return bits;
        }

        private static boolean areAllUnlike(int[] moves, int hours) {
            for (int w = 1; w < moves.length; w++) {
                for (int v = 0; v < w; v++) {
                    if (moves[v] >= 0 && moves[w] >= 0 && ((moves[v] ^ moves[w]) & hours) == 0) {
                        return false;
                    }
                }
            }
            return true;
        }

        static int liveliestHour(House house) {
            int best = 0;
            for (int hour = 1; hour < House.HOURS; hour++) {
                if (house.movingAt(hour) > house.movingAt(best)) {
                    best = hour;
                }
            }
            return best;
        }

        static int takenForTrue(House house, int v) {
            int bits = 0;
            for (int w = 0; w < house.windows; w++) {
                if (!house.isStopped(w) && house.seemingOf(w, house.hour) >= v
                        && house.shineOf(w, house.hour) == 0) {
                    bits |= 1 << w;
                }
            }
            return bits;
        }

        static int seemingHour(House house, int w) {
            if (!Kinds.isPainted(house.kinds[w])) {
                return NONE;
            }
            int best = 0;
            for (int hour = 1; hour < House.HOURS; hour++) {
                if (house.unstoppedSeeming(w, hour) > house.unstoppedSeeming(w, best)) {
                    best = hour;
                }
            }
            return best;
        }

        static int addressed(House house, int hour) {
            int best = NONE;
            for (int w = 0; w < house.windows; w++) {
                if (house.seemingOf(w, hour) > 0 && (best < 0 || isPreferred(house, w, best, hour))) {
                    best = w;
                }
            }
            return best;
        }

        private static boolean isPreferred(House house, int w, int other, int hour) {
            int seems = house.seemingOf(w, hour);
            int otherSeems = house.seemingOf(other, hour);
            return seems > otherSeems
                    || seems == otherSeems && house.figures[w] > house.figures[other];
        }

        static int daysToAnother(House house) {
            int first = addressed(house, house.hour);
            if (first < 0) {
                return NONE;
            }
            for (int n = 1; n < House.HOURS; n++) {
                int other = addressed(house, (house.hour + n) % House.HOURS);
                if (other >= 0 && other != first) {
                    return n;
                }
            }
            return NONE;
        }

        static int twinPairs(House house) {
            int pairs = 0;
            for (int v = 0; v < house.windows; v++) {
                for (int w = v + 1; w < house.windows; w++) {
                    if (areTwins(house, v, w)) {
                        pairs++;
                    }
                }
            }
            return pairs;
        }

        static int firstTwins(House house) {
            for (int v = 0; v < house.windows; v++) {
                for (int w = v + 1; w < house.windows; w++) {
                    if (areTwins(house, v, w)) {
                        return 10 * v + w;
                    }
                }
            }
            return NONE;
        }

        /** STOPPED ones count too: they neither SHINE nor MOVE at any hour. */
        private static boolean areTwins(House house, int v, int w) {
            for (int hour = 0; hour < House.HOURS; hour++) {
                if (house.shineOf(v, hour) != house.shineOf(w, hour)
                        || house.isMoving(v, hour) != house.isMoving(w, hour)) {
                    return false;
                }
            }
            return true;
        }
    }

    /** The GAME of the assessor and the house. */
    private static final class Play {
        /** So many looks at most, at hours so far from one another. */
        static final int LOOKS = 4;
        private static final int STEP = 6;

        static int mostDue(House house, int left) {
            return gained(house, 0, house.stopped, left);
        }

        static int firstHour(House house, int left) {
            if (left <= 0) {
                return NONE;
            }
            int best = 0;
            int most = gainedBy(house, 0, house.stopped, left, 0);
            for (int look = 1; look < LOOKS; look++) {
                int gain = gainedBy(house, 0, house.stopped, left, look);
                if (gain > most) {
                    best = look;
                    most = gain;
                }
            }
            return best * STEP;
        }

        /** What the assessor gets by the looks left, when some (bits) were made. */
        private static int gained(House house, int looked, int stopped, int left) {
            int most = 0;
            if (left <= 0) {
                return most;
            }
            for (int look = 0; look < LOOKS; look++) {
                if ((looked >> look & 1) == 0) {
                    most = Math.max(most, gainedBy(house, looked, stopped, left, look));
                }
            }
            return most;
        }

        private static int gainedBy(House house, int looked, int stopped, int left, int look) {
            int seen = seenAt(house, stopped, look * STEP);
            // What the house stops behind the last look changes nothing.
            if (left <= 1) {
                return seen;
            }
            int made = looked | 1 << look;
            int least = gained(house, made, stopped, left - 1);
            for (int w = 0; w < house.windows; w++) {
                if ((stopped >> w & 1) == 0) {
                    least = Math.min(least, gained(house, made, stopped | 1 << w, left - 1));
                }
            }
            return seen + least;
        }

        private static int seenAt(House house, int stopped, int hour) {
            int due = 0;
            for (int w = 0; w < house.windows; w++) {
                if ((stopped >> w & 1) == 0 && house.isMoving(w, hour)) {
                    due += house.figures[w] + 1;
                }
            }
            return due;
        }
    }

    /** What is asked of DUES, of told hours and of told YEARS. */
    private static final class Ledger {
        private static final int LAST_PAID_YEAR = 60;
        private static final int DRAWN_YEARS = 10;

        static int yearPaidOff(House house, int payment) {
            int owed = house.owed;
            for (int y = 0; y <= LAST_PAID_YEAR; y++) {
                if (owed == 0) {
                    return y;
                }
                owed = Math.max(0, house.owedBehindYear(owed, house.hour) - payment);
            }
            return NONE;
        }

        /** LOOPHOLE; each change is tried on the draft. */
        static int cheapestChange(House house, House draft) {
            int best = NONE;
            int least = house.openDues();
            for (int w = 0; w < house.windows; w++) {
                for (int kind = 0; kind < Kinds.ALL; kind++) {
                    draft.kinds[w] = kind;
                    int due = draft.openDues();
                    if (due < least && !lacksMore(house, draft)) {
                        best = 10 * w + kind;
                        least = due;
                    }
                }
                draft.kinds[w] = house.kinds[w];
            }
            return best;
        }

        private static boolean lacksMore(House house, House draft) {
            for (int room = 0; room < House.ROOMS; room++) {
                if (draft.lackOf(room, house.hour) > house.lackOf(room, house.hour)) {
                    return true;
                }
            }
            return false;
        }

        static int forgedPlace(House house, Shelf told) {
            int latest = 0;
            for (int from = 0; from < House.HOURS; from++) {
                int place = forgedPlaceFrom(house, told, from);
                if (place == NONE) {
                    return NONE;
                }
                latest = Math.max(latest, place);
            }
            return latest;
        }

        private static int forgedPlaceFrom(House house, Shelf told, int from) {
            for (int i = 0; i < told.length; i++) {
                if (told.elements[i] != house.movingAt((from + i) % House.HOURS)) {
                    return i;
                }
            }
            return NONE;
        }

        static int wrongYear(House house, Shelf told) {
            int owed = house.owed;
            for (int i = 0; i < told.length; i++) {
                if (told.elements[i] != told.untold() && told.elements[i] != owed) {
                    return i;
                }
                owed = house.owedBehindYear(owed, house.hour);
            }
            return NONE;
        }

        static int drawnYears(House house, int times, int seed, int what) {
            int more = 0;
            int lively = 0;
            int z = seed;
            for (int time = 0; time < times; time++) {
                int owed = house.owed;
                for (int y = 0; y < DRAWN_YEARS; y++) {
                    z = z * 1103515245 + 12345;
                    int hour = (z & 0x7fffffff) / 65536 % House.HOURS;
                    owed = house.owedBehindYear(owed, hour);
                    if (house.movingAt(hour) > 0) {
                        lively++;
                    }
                }
                more += owed - house.owed;
            }
            return what == 0 ? more : lively;
        }
    }

    /** Fractions in least terms, and the odds of rain. */
    private static final class Odds {
        private static final int MOST_STEPS = 1000;

        static long leastTerms(long above, long below, int part) {
            long divisor = commonDivisor(above, below);
            if (divisor <= 0) {
                return 0;
            }
            return part == 0 ? above / divisor : below / divisor;
        }

        private static long commonDivisor(long a, long b) {
            long greater = a;
            long rest = b;
            for (int step = 0; step < MOST_STEPS && rest != 0; step++) {
                long next = greater % rest;
                greater = rest;
                rest = next;
            }
            return greater;
        }

        static long power(long base, int exponent) {
            long product = 1;
            for (int i = 0; i < exponent; i++) {
                product *= base;
            }
            return product;
        }

        /** Of the t to the power of n ways that n hours can go, those with k or more wet ones. */
        static long wetWays(int t, int n, int k) {
            long ways = 0;
            long choices = 1;
            for (int wet = 0; wet <= n; wet++) {
                if (wet >= k) {
                    ways += choices * power(t - 1, n - wet);
                }
                choices = choices * (n - wet) / (wet + 1);
            }
            return ways;
        }
    }
}
