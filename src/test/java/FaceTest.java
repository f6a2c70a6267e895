import java.io.IOException;
import java.lang.reflect.Field;
import java.lang.reflect.Method;
import java.lang.reflect.Modifier;
import java.nio.file.Files;
import java.nio.file.Path;
import java.util.TreeSet;

/** The public face of the document, and rules of LANGUAGE.md that can be seen from outside or in the text. */
public final class FaceTest {
    private static final String[] FACE = {
        "write(int)", "wipe()", "fault()", "lay()", "tick(int)", "renew(int)", "weigh(int,int)", "join(int)",
        "repair(int,int)", "undo()", "file(int,int)", "sent(int,int)", "listener(int,int)", "holds(int,int,int)",
        "waits(int,int)", "mean(int,int,int)", "count(int)"};

    public static void main(String[] args) throws IOException {
        constants();
        methods();
        classesInside();
        source();
        Due.end();
    }

    private static void constants() {
        Due.is("BAD", FileRounds.BAD, -1);
        Due.is("NO", FileRounds.NO, -2);
        Due.is("FULL", FileRounds.FULL, -3);
        Due.is("NONE", FileRounds.NONE, -4);
        Due.is("public and final", FileRounds.class.getModifiers(), Modifier.PUBLIC | Modifier.FINAL);
        Due.is("constructors", FileRounds.class.getConstructors().length, 1);
        Due.is("fields", FileRounds.class.getFields().length, 4);
        for (Field field : FileRounds.class.getDeclaredFields()) {
            boolean open = field.getName().equals("BAD") || field.getName().equals("NO")
                || field.getName().equals("FULL") || field.getName().equals("NONE");
            Due.is(field.getName(), Modifier.isPrivate(field.getModifiers()) ? 0 : 1, open ? 1 : 0);
        }
    }

    private static String signature(Method m) {
        StringBuilder b = new StringBuilder(m.getName()).append('(');
        for (int i = 0; i < m.getParameterCount(); i++) {
            b.append(i > 0 ? "," : "").append(m.getParameterTypes()[i].getName());
        }
        return b.append(')').toString();
    }

    private static void methods() {
        TreeSet<String> due = new TreeSet<>(java.util.List.of(FACE));
        TreeSet<String> got = new TreeSet<>();
        TreeSet<String> names = new TreeSet<>();
        for (Method m : FileRounds.class.getDeclaredMethods()) {
            if (Modifier.isPublic(m.getModifiers())) {
                got.add(signature(m));
                names.add(m.getName());
                Due.is(m + " gives an int", m.getReturnType() == int.class ? 1 : 0, 1);
                Due.is(m + " is no static one", Modifier.isStatic(m.getModifiers()) ? 1 : 0, 0);
            }
        }
        Due.is("methods " + got, got.equals(due) ? 1 : 0, 1);
        for (Method m : FileRounds.class.getDeclaredMethods()) {
            if (!Modifier.isPublic(m.getModifiers())) {
                Due.is(m + " is private", Modifier.isPrivate(m.getModifiers()) ? 1 : 0, 1);
                Due.is(m + " has a name of its own", names.contains(m.getName()) ? 1 : 0, 0);
            }
        }
    }

    private static void classesInside() {
        Class<?>[] inside = FileRounds.class.getDeclaredClasses();
        Due.is("twelve classes at most", inside.length < 12 ? 1 : 0, 1);
        for (Class<?> c : inside) {
            Due.is(c + " is static", Modifier.isStatic(c.getModifiers()) ? 1 : 0, 1);
            int fields = 0;
            for (Field field : c.getDeclaredFields()) {
                fields += Modifier.isStatic(field.getModifiers()) ? 0 : 1;
            }
            Due.is(c + " has twenty fields at most", fields <= 20 ? 1 : 0, 1);
            for (Method m : c.getDeclaredMethods()) {
                Due.is(m + " takes seven at most", m.getParameterCount() <= 7 ? 1 : 0, 1);
            }
        }
    }

    private static void source() throws IOException {
        String text = Files.readString(Path.of("src/main/java/FileRounds.java"));
        String[] barred = {
            "import ", "package ", "catch", "finally", "throw ", "->", "::", "Float.", "Double.", "synchronized",
            "assert", "Exact(", "System.out", "System.nano", "System.current", "Random", "Thread", "@SuppressWarnings",
            "protected "};
        for (String word : barred) {
            Due.is("'" + word + "' in the source", text.indexOf(word) >= 0 ? 1 : 0, 0);
        }
        for (int i = 0; i < text.length(); i++) {
            if (text.charAt(i) > 126) {
                Due.is("a sign of the source at " + i, text.charAt(i), 126);
            }
        }
    }
}
