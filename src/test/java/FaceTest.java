import java.io.IOException;
import java.lang.reflect.Constructor;
import java.lang.reflect.Field;
import java.lang.reflect.Method;
import java.lang.reflect.Modifier;
import java.nio.file.Files;
import java.nio.file.Path;
import java.util.Arrays;
import java.util.List;
import java.util.Set;
import java.util.TreeSet;

/** The face of the document, and what of ../shared/LANGUAGE.md can be seen from outside or in the text. */
public final class FaceTest {
    private static final String[] FACE = {
        "int feed(int, int, int, int, int)", "boolean end(int)", "int fault(int)", "int text(int)", "int rule(int)",
        "int kind(int, int)", "int box(int, int)", "boolean law(int)", "boolean habit(int)",
        "int put(int, int, boolean)", "int take(int)", "boolean label(int)", "int months(int)", "int off(int)",
        "int years(int, long)", "int undo()", "int log(int, int)", "int step(int, int, int)", "int run(int, int)",
        "int perform(int)", "int dinner(int, int)", "int eat(int)", "int costs(int)", "int full(int)",
        "int keep(int, int)", "int spans(int, int)", "int nameless()", "int doubles(int)", "int peek(int, int)",
        "int what(int)", "int found(int, int, boolean)", "int history(int, int)", "int share(int)", "int lot(int)",
        "int labels(int, int)", "int rests(int)", "int most(int)", "int spoilt()", "int buried(int)", "int goes(int)",
        "int soonest(int)", "int monthly(int)", "int make(int, int)", "int image()", "int back()", "int count(int)"};

    public static void main(String[] args) throws IOException {
        face();
        insides();
        source();
        Check.finish("FaceTest");
    }

    private static void face() {
        Set<String> due = new TreeSet<>(Arrays.asList(FACE));
        Set<String> got = new TreeSet<>();
        for (Method m : FrostBox.class.getDeclaredMethods()) {
            if (!Modifier.isPrivate(m.getModifiers())) {
                String types = Arrays.toString(m.getParameterTypes());
                got.add(m.getReturnType() + " " + m.getName() + "(" + types.substring(1, types.length() - 1) + ")");
            }
        }
        Check.due("the face " + got, got.equals(due), true);
        Check.due("public and final", Modifier.isPublic(FrostBox.class.getModifiers())
                && Modifier.isFinal(FrostBox.class.getModifiers()), true);
        Constructor<?>[] makers = FrostBox.class.getDeclaredConstructors();
        Check.due("one constructor", makers.length == 1 && Modifier.isPublic(makers[0].getModifiers()), true);
        Set<String> constants = new TreeSet<>();
        for (Field f : FrostBox.class.getDeclaredFields()) {
            if (!Modifier.isPrivate(f.getModifiers())) {
                constants.add(f.getName());
            }
        }
        Check.due("constants " + constants, constants.equals(Set.of("NONE", "HIDDEN")), true);
        Check.due("NONE", FrostBox.NONE, -1);
        Check.due("HIDDEN", FrostBox.HIDDEN, -1000000);
    }

    private static void insides() {
        Set<String> names = new TreeSet<>();
        for (String call : FACE) {
            names.add(call.substring(call.indexOf(' ') + 1, call.indexOf('(')));
        }
        Class<?>[] inside = FrostBox.class.getDeclaredClasses();
        Check.due("at most twelve classes", inside.length + 1 <= 12, true);
        for (Class<?> c : inside) {
            Check.due("private and static: " + c, Modifier.isPrivate(c.getModifiers())
                    && Modifier.isStatic(c.getModifiers()), true);
            members(c, names);
        }
        members(FrostBox.class, names);
    }

    private static void members(Class<?> c, Set<String> names) {
        int fields = 0;
        for (Field f : c.getDeclaredFields()) {
            boolean fixed = Modifier.isStatic(f.getModifiers());
            fields += fixed ? 0 : 1;
            Check.due("static and not final: " + f, fixed && !Modifier.isFinal(f.getModifiers()), false);
        }
        Check.due("at most twenty fields: " + c, fields <= 20, true);
        for (Method m : c.getDeclaredMethods()) {
            Check.due("at most seven parameters: " + m, m.getParameterCount() <= 7, true);
            boolean shown = c == FrostBox.class && Modifier.isPublic(m.getModifiers());
            Check.due("a name of the face: " + m, !shown && names.contains(m.getName()), false);
        }
    }

    private static void source() throws IOException {
        List<String> lines = Files.readAllLines(Path.of("src/main/java/FrostBox.java"));
        int throwing = 0;
        int start = 0;
        for (int i = 0; i < lines.size(); i++) {
            String line = lines.get(i);
            String code = line.trim().startsWith("//") || line.trim().startsWith("/*") ? "" : line;
            for (String sign : new String[] {"->", "::", "try", "catch", "finally", "synchronized", "assert", "instanceof",
                "static {", "System.out", "Math.random", "Thread", "Exact(", "\"", "package "}) {
                Check.due("line " + (i + 1) + " has " + sign, code.contains(sign), false);
            }
            throwing += code.contains("throw ") ? 1 : 0;
            Check.due("line " + (i + 1) + " is of signs 1 to 127", line.chars().allMatch(c -> c > 0 && c < 128), true);
            boolean opens = line.matches(" {4,8}\\S.*\\) (throws \\w+ )?\\{") && !line.trim().startsWith("for ");
            start = opens ? i : start;
            boolean closes = line.equals("    }") || line.equals("        }");
            Check.due("a method ends on line " + (i + 1) + " with more than sixty lines",
                    closes && start > 0 && i - start > 60 && i - start < 90, false);
        }
        Check.due("one throw", throwing, 1);
    }
}
