import java.lang.reflect.Constructor;
import java.lang.reflect.Field;
import java.lang.reflect.Method;
import java.lang.reflect.Modifier;
import java.util.ArrayList;
import java.util.Arrays;
import java.util.Collections;
import java.util.HashSet;
import java.util.List;
import java.util.Set;

/** The class shows the document's face, and nothing else (LANGUAGE.md, rules 1, 5 and 11). */
public final class FaceTest {
    private static final String[] FACE = {
        "int house(int)", "int window(int, int)", "int at(int, int, int)", "int builds(int, int, int)",
        "int stops(int)", "int needs(int, int)", "int set(int, int)", "int years(int)", "int pays(int)",
        "int light(int, int)", "int allDue()", "int stop(int)", "int dark()", "int darkest()", "int bright(int)",
        "int mirrors()", "long mean(int, int)", "int hidden()", "int looks()", "int mostMoving(int)",
        "int taken(int)", "int bestHour(int)", "int game(int, int)", "int suitor(int)", "int twins(int)",
        "int whatWas(int, int, int, int)", "int paidOff(int)", "long rain(int, int, int, int)", "int loophole()",
        "int forged(int)", "int judge(int)", "int lots(int, int, int)", "int image()", "int restore()",
        "int count(int)", "int keep(int, int, int, int)", "int row(int, int, int)", "int put(int, int, int)",
        "long element(int, int) IllegalArgumentException IllegalStateException",
        "int copy(int, int, int, int, int)", "int cost(int)", "int toss(int)",
    };
    private static int wrong = 0;

    private static void check(boolean holds, String what) {
        if (!holds) {
            wrong++;
            System.out.println("not so: " + what);
        }
    }

    private static String shown(Method m) {
        List<String> types = new ArrayList<>();
        for (Class<?> type : m.getParameterTypes()) {
            types.add(type.getSimpleName());
        }
        StringBuilder text = new StringBuilder(m.getReturnType().getSimpleName() + " " + m.getName()
                + "(" + String.join(", ", types) + ")");
        for (Class<?> thrown : m.getExceptionTypes()) {
            text.append(" ").append(thrown.getSimpleName());
        }
        return text.toString();
    }

    private static void checkOuter(Class<?> outer) {
        check(Modifier.isPublic(outer.getModifiers()) && Modifier.isFinal(outer.getModifiers()), "public and final");
        check(outer.getDeclaredConstructors().length == 1, "one constructor");
        for (Constructor<?> c : outer.getDeclaredConstructors()) {
            check(Modifier.isPublic(c.getModifiers()) && c.getParameterCount() == 0, "the constructor's face");
        }
        List<String> face = new ArrayList<>();
        for (Method m : outer.getDeclaredMethods()) {
            if (Modifier.isPublic(m.getModifiers())) {
                check(!Modifier.isStatic(m.getModifiers()), m.getName() + " is not static");
                face.add(shown(m));
            } else {
                check(Modifier.isPrivate(m.getModifiers()) || m.isSynthetic(), m.getName() + " is private");
            }
        }
        List<String> due = new ArrayList<>(Arrays.asList(FACE));
        Collections.sort(due);
        Collections.sort(face);
        check(face.equals(due), "the face: " + face);
        for (Field f : outer.getDeclaredFields()) {
            check(Modifier.isPrivate(f.getModifiers()) || f.isSynthetic(), f.getName() + " is private");
        }
    }

    private static void checkInner(Class<?> outer) {
        Set<String> names = new HashSet<>();
        for (String call : FACE) {
            names.add(call.substring(call.indexOf(' ') + 1, call.indexOf('(')));
        }
        check(outer.getDeclaredClasses().length <= 12, "twelve classes");
        List<Class<?>> all = new ArrayList<>(Arrays.asList(outer.getDeclaredClasses()));
        all.add(outer);
        for (Class<?> c : all) {
            check(c == outer || Modifier.isStatic(c.getModifiers()) && !Modifier.isPublic(c.getModifiers()),
                    c.getSimpleName() + " is static, and not public");
            int fields = 0;
            for (Field f : c.getDeclaredFields()) {
                boolean isStatic = Modifier.isStatic(f.getModifiers());
                fields += isStatic ? 0 : 1;
                check(!isStatic || Modifier.isFinal(f.getModifiers()), f.getName() + " is final, if static");
            }
            check(fields <= 20, c.getSimpleName() + " has twenty fields");
            for (Method m : c.getDeclaredMethods()) {
                check(m.getParameterCount() <= 7, m.getName() + " has seven parameters");
                check(Modifier.isPublic(m.getModifiers()) || !names.contains(m.getName()),
                        c.getSimpleName() + "." + m.getName() + " has a name of its own");
            }
        }
    }

    public static void main(String[] args) {
        checkOuter(BrickedUpAsBlind.class);
        checkInner(BrickedUpAsBlind.class);
        System.out.println(wrong == 0 ? "the face is as due" : wrong + " things of the face are not as due");
        if (wrong != 0) {
            System.exit(1);
        }
    }
}
