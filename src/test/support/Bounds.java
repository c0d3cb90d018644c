import java.lang.reflect.InvocationTargetException;
import java.lang.reflect.Method;
import java.util.ArrayList;
import java.util.Arrays;
import java.util.HashMap;
import java.util.List;
import java.util.Map;

/**
 * What the tests of boundary cases share. A step is written as text: a call with
 * its numbers ("light 0 12"), THE TEXT of a HOUSE ("w05012;n005;", read through
 * shelf 7), or a ROW with its elements ("told 0 1 : 5 -32768" on shelf 0, of
 * shorts). A setup is such steps with " / " between them. A step to be checked
 * has the answer behind: "light 0 24 = -1"; an exception by its name.
 */
final class Bounds {
    private static final int CALLS = 512;
    private static final Map<String, Method> FACE = new HashMap<>();
    private static String sentence = "";
    private static int wrong = 0;
    private static int checks = 0;

    private final BrickedUpAsBlind x = new BrickedUpAsBlind();
    private int calls = 0;

    private Bounds() {
    }

    // ---- what the tests call

    /** The promise (or the part of the Terms) and its sentence that the checks behind this hold to. */
    static void says(String where, String words) {
        sentence = where + ", \"" + words + "\"";
    }

    /** The steps one behind the other on one new object. */
    static void run(String setup, String... steps) {
        Bounds b = made(setup);
        for (String step : steps) {
            b.check(setup, step);
        }
        b.checkCalls(setup);
    }

    /** Each step by itself on a new object; it answers so, and nothing has changed behind it. */
    static void still(String setup, String... steps) {
        for (String step : steps) {
            Bounds b = made(setup);
            b.check(setup, step);
            List<String> changed = b.told();
            b.checkCalls(setup);
            List<String> due = made(setup).told();
            checks++;
            if (!changed.equals(due)) {
                complain(setup + " / " + step + " changed what is told: " + changed + ", it was " + due);
            }
        }
    }

    /** Both setups make what is told alike. */
    static void alike(String setup, String other) {
        Bounds b = made(setup);
        List<String> got = b.told();
        b.checkCalls(setup);
        List<String> due = made(other).told();
        checks++;
        if (!got.equals(due)) {
            complain(setup + " is told " + got + ", " + other + " is told " + due);
        }
    }

    static void due(String what, long got, long want) {
        checks++;
        if (got != want) {
            complain(what + " is " + got + ", due is " + want);
        }
    }

    static String times(int n, String text) {
        return text.repeat(n);
    }

    static void end() {
        System.out.println(checks + " checks: " + (wrong == 0 ? "all as due" : wrong + " not as due"));
        if (wrong != 0 || checks == 0) {
            System.exit(1);
        }
    }

    // ---- how it is done

    private static void complain(String what) {
        wrong++;
        if (wrong <= 40) {
            System.out.println(sentence + ": " + what);
        }
    }

    private static Bounds made(String setup) {
        Bounds b = new Bounds();
        for (String step : setup.isEmpty() ? new String[0] : setup.split(" / ")) {
            String answer = b.answer(step);
            if (answer.startsWith("-")) {
                complain("the setup " + setup + " fails at " + step + ": " + answer);
            }
        }
        return b;
    }

    private void check(String setup, String step) {
        int sign = step.lastIndexOf(" = ");
        String want = step.substring(sign + 3);
        String got = answer(step.substring(0, sign));
        checks++;
        if (!got.equals(want)) {
            complain(setup + " / " + step + " answered " + got);
        }
    }

    private void checkCalls(String setup) {
        if (calls > CALLS) {
            complain(setup + " needs more calls than are promised: " + calls);
        }
    }

    private String answer(String step) {
        if (step.startsWith("told ")) {
            return tell(step);
        }
        if (step.contains(";")) {
            return read(step);
        }
        String[] parts = step.split(" ");
        int[] args = new int[parts.length - 1];
        for (int i = 0; i < args.length; i++) {
            args[i] = Integer.parseInt(parts[i + 1]);
        }
        return call(parts[0], args);
    }

    private String tell(String step) {
        String[] halves = step.split(":", 2);
        String[] head = halves[0].trim().split(" ");
        String[] elements = halves[1].isBlank() ? new String[0] : halves[1].trim().split(" ");
        int d = Integer.parseInt(head[1]);
        String answer = call("row", d, Integer.parseInt(head[2]), elements.length);
        for (int i = 0; i < elements.length; i++) {
            call("put", d, i, Integer.parseInt(elements[i]));
        }
        return answer;
    }

    private String read(String text) {
        call("row", 7, 0, text.length());
        for (int i = 0; i < text.length(); i++) {
            call("put", 7, i, text.charAt(i));
        }
        String answer = call("house", 7);
        call("keep", 7, 0, 0, 0);
        return answer;
    }

    private String call(String name, int... args) {
        calls++;
        try {
            return String.valueOf(method(name, args.length).invoke(x, Arrays.stream(args).boxed().toArray()));
        } catch (InvocationTargetException e) {
            return e.getCause().getClass().getSimpleName();
        } catch (ReflectiveOperationException e) {
            throw new IllegalStateException(e);
        }
    }

    private static Method method(String name, int arguments) throws NoSuchMethodException {
        Method known = FACE.get(name);
        if (known == null) {
            Class<?>[] types = new Class<?>[arguments];
            Arrays.fill(types, int.class);
            known = BrickedUpAsBlind.class.getMethod(name, types);
            FACE.put(name, known);
        }
        return known;
    }

    // ---- all that can be told of an object; what is told last changes it

    private List<String> told() {
        List<String> told = new ArrayList<>();
        tellHouse(told);
        int noRow = -1;
        for (int d = 0; d < 8; d++) {
            noRow = call("put", d, -1, 0).equals("-13") ? noRow : d;
            told.add("shelf " + d + ": " + call("cost", d) + " " + call("toss", d) + " " + elements(d));
        }
        for (int d = 0; d < 8; d++) {
            String number = call("builds", d, 0, 0);
            told.add("built " + number + " " + call("window", number.startsWith("-") ? -1 : Integer.parseInt(number), 1));
        }
        for (int d = 0; d < 8 && noRow >= 0; d++) {
            told.add("sort " + sort(d, noRow));
        }
        told.add("restored " + call("restore"));
        tellHouse(told);
        return told;
    }

    private void tellHouse(List<String> told) {
        StringBuilder text = new StringBuilder("counts");
        for (int what = 0; what < 8; what++) {
            text.append(' ').append(call("count", what));
        }
        int windows = Integer.parseInt(call("count", 0));
        for (int w = 0; w < windows; w++) {
            text.append(" /");
            for (int what = 0; what < 6; what++) {
                text.append(' ').append(call("window", w, what));
            }
        }
        for (int room = 0; room < 4; room++) {
            text.append(" need ").append(call("needs", room, 0));
        }
        told.add(text.toString());
    }

    private String elements(int d) {
        StringBuilder text = new StringBuilder();
        for (int i = 0; i <= 100; i++) {
            String element = call("element", d, i);
            if (element.endsWith("Exception")) {
                break;
            }
            text.append(element).append(' ');
        }
        return text.toString();
    }

    private String sort(int d, int noRow) {
        for (int sort = 0; sort < 3 && d != noRow; sort++) {
            call("row", noRow, sort, 0);
            if (call("copy", d, 0, noRow, 0, 0).equals("0")) {
                return "" + sort;
            }
        }
        return "none";
    }
}
