import java.io.File;
import java.io.IOException;
import java.lang.reflect.Method;
import java.lang.reflect.Modifier;
import java.net.URL;
import java.net.URLClassLoader;
import java.nio.file.Files;
import java.nio.file.Path;
import java.util.List;
import java.util.regex.Matcher;
import java.util.regex.Pattern;
import javax.tools.JavaCompiler;
import javax.tools.ToolProvider;

/** The example in README.md answers as README.md says, and its table leaves no call out. */
public final class ReadmeTest {
    private static final Pattern ANSWERED =
        Pattern.compile("(?:(int|float) (\\w+) = )?(.+); *// -> (-?[0-9.]+)(?::.*)?");

    private static int answersToldInReadme = 0;

    public static void main(String[] args) throws Exception {
        List<String> readme = Files.readAllLines(Path.of("README.md"));
        everyCallStandsInTheTable(readme);
        theExampleAnswersSo(readme);
        Due.end();
    }

    private static void everyCallStandsInTheTable(List<String> readme) {
        Due.sentence("README: the table of calls");
        for (Method m : FileRounds.class.getDeclaredMethods()) {
            if (Modifier.isPublic(m.getModifiers())) {
                boolean told = readme.stream().anyMatch(s -> s.startsWith("|") && s.contains("`" + m.getName() + "("));
                Due.is(m.getName(), told ? 1 : 0, 1);
            }
        }
    }

    private static void theExampleAnswersSo(List<String> readme) throws Exception {
        Due.sentence("README: the example");
        Path room = Files.createTempDirectory("readme");
        Path source = room.resolve("ReadmeExample.java");
        Files.writeString(source, asClass(readme));
        Due.is("answers told, at least one", answersToldInReadme > 0 ? 1 : 0, 1);
        Due.is("it compiles", compile(source, room), 0);
        try (URLClassLoader loader = new URLClassLoader(new URL[] {room.toUri().toURL()})) {
            // Its answers come in the order of its lines: what it says and what is due, by turns.
            double[] answers = (double[]) loader.loadClass("ReadmeExample").getMethod("answers").invoke(null);
            Due.is("answers", answers.length, 2L * answersToldInReadme);
            for (int i = 0; i + 1 < answers.length; i += 2) {
                Due.is("answer " + i / 2 + ": " + answers[i] + " for " + answers[i + 1], answers[i] == answers[i + 1] ? 1 : 0, 1);
            }
        } finally {
            empty(room);
        }
    }

    private static int compile(Path source, Path room) {
        JavaCompiler compiler = ToolProvider.getSystemJavaCompiler();
        String path = System.getProperty("java.class.path");
        return compiler == null ? -1 : compiler.run(null, null, null, "-cp", path, "-d", room.toString(), source.toString());
    }

    private static String asClass(List<String> readme) {
        StringBuilder b = new StringBuilder("public class ReadmeExample {\n public static double[] answers() {\n");
        b.append("java.util.List<Double> told = new java.util.ArrayList<>();\n");
        int from = readme.indexOf("```java") + 1;
        int to = from + readme.subList(from, readme.size()).indexOf("```");
        for (String line : readme.subList(from, to)) {
            b.append(asCheck(line)).append('\n');
        }
        return b.append("return told.stream().mapToDouble(d -> d).toArray();\n}\n}\n").toString();
    }

    private static String asCheck(String line) {
        Matcher m = ANSWERED.matcher(line);
        if (!m.matches()) {
            return line;
        }
        answersToldInReadme++;
        String type = m.group(1) == null ? "int" : m.group(1);
        String name = m.group(2) == null ? "answer" + answersToldInReadme : m.group(2);
        String due = type.equals("float") ? m.group(4) + "f" : m.group(4);
        return type + " " + name + " = " + m.group(3) + "; told.add((double) " + name + "); told.add((double) " + due + ");";
    }

    private static void empty(Path room) throws IOException {
        File[] files = room.toFile().listFiles();
        for (File file : files == null ? new File[0] : files) {
            Files.delete(file.toPath());
        }
        Files.delete(room);
    }
}
