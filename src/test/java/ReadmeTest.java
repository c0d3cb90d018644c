import java.io.IOException;
import java.lang.reflect.InvocationTargetException;
import java.lang.reflect.Modifier;
import java.net.URL;
import java.net.URLClassLoader;
import java.nio.file.Files;
import java.nio.file.Path;
import java.util.ArrayList;
import java.util.Arrays;
import java.util.List;
import java.util.regex.Matcher;
import java.util.regex.Pattern;
import javax.tools.ToolProvider;

/**
 * README.md's pieces of Java answer as its comments say, and it names every call.
 * Run from the project's own directory, as .ci/run does.
 */
public final class ReadmeTest {
    private static final Pattern PIECE = Pattern.compile("```java\n(.*?)```", Pattern.DOTALL);
    private static final Pattern TOLD = Pattern.compile("^(x\\.[^;]*);\\s*// (-?\\d+)\\b.*$");
    private static int wrong = 0;
    private static int told = 0;

    /** Called by what is made of the pieces, too. */
    public static void due(String call, long got, long want) {
        if (got != want) {
            wrong++;
            System.out.println("README.md tells " + call + " as " + want + ", it answered " + got);
        }
    }

    private static String checked(String piece) {
        StringBuilder code = new StringBuilder();
        for (String line : piece.split("\n")) {
            Matcher m = TOLD.matcher(line);
            if (m.matches()) {
                told++;
                code.append("ReadmeTest.due(\"").append(m.group(1)).append("\", ")
                        .append(m.group(1)).append(", ").append(m.group(2)).append("L);\n");
            } else {
                code.append(line).append('\n');
            }
        }
        return code.toString();
    }

    private static void runPieces(List<String> pieces) throws IOException, ReflectiveOperationException {
        StringBuilder source = new StringBuilder("public class ReadmePieces {\npublic static void run() {\n");
        for (String piece : pieces) {
            source.append("{\n").append(checked(piece)).append("}\n");
        }
        Path dir = Files.createTempDirectory("readme");
        Path file = dir.resolve("ReadmePieces.java");
        Path made = dir.resolve("ReadmePieces.class");
        try {
            Files.writeString(file, source.append("}\n}\n"));
            int failed = ToolProvider.getSystemJavaCompiler().run(null, null, null,
                    "-cp", System.getProperty("java.class.path"), "-d", dir.toString(), file.toString());
            due("to compile its pieces", failed, 0);
            if (failed == 0) {
                try (URLClassLoader loader = new URLClassLoader(new URL[] {dir.toUri().toURL()})) {
                    loader.loadClass("ReadmePieces").getMethod("run").invoke(null);
                }
            }
        } finally {
            for (Path path : Arrays.asList(file, made, dir)) {
                Files.deleteIfExists(path);
            }
        }
    }

    private static void checkCallsAreNamed(String readme) {
        Arrays.stream(BrickedUpAsBlind.class.getDeclaredMethods())
                .filter(m -> Modifier.isPublic(m.getModifiers()))
                .filter(m -> !readme.contains("`" + m.getName() + "`"))
                .forEach(m -> due("(naming) " + m.getName(), 0, 1));
    }

    public static void main(String[] args) throws IOException, ReflectiveOperationException {
        String readme = Files.readString(Path.of("README.md"));
        List<String> pieces = new ArrayList<>();
        for (Matcher m = PIECE.matcher(readme); m.find();) {
            pieces.add(m.group(1));
        }
        try {
            runPieces(pieces);
        } catch (InvocationTargetException e) {
            wrong++;
            System.out.println("README.md's pieces threw " + e.getCause());
        }
        checkCallsAreNamed(readme);
        System.out.println(told + " answers of README.md: " + (wrong == 0 ? "all as due" : wrong + " not as due"));
        if (wrong != 0 || told == 0) {
            System.exit(1);
        }
    }
}
