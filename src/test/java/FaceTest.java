import java.io.IOException;
import java.lang.reflect.Constructor;
import java.lang.reflect.Field;
import java.lang.reflect.Method;
import java.lang.reflect.Modifier;
import java.nio.file.Files;
import java.nio.file.Path;
import java.util.Arrays;
import java.util.Set;
import java.util.TreeSet;

/** The public face, member by member, and those rules of LANGUAGE.md that a text can be asked for. */
public final class FaceTest {
    private static final Bench bench = new Bench();
    private static final String[] FACE = {
        "NONE:int", "boolean type(char)",
        "int rule() throws IllegalArgumentException, UnsupportedOperationException", "int place()", "boolean drop(int)",
        "int clear()", "int rules()", "int symbol(int, int)", "int useful()",
        "int solid() throws UnsupportedOperationException", "int plain() throws UnsupportedOperationException",
        "int greibach() throws UnsupportedOperationException", "int shape()", "boolean language(int)",
        "int first(char)", "int follow(char)", "boolean single()", "boolean feed(char)", "int wipe()",
        "boolean derives()", "int ways() throws IllegalStateException",
        "int derive() throws IllegalStateException, IllegalArgumentException", "int step(int)",
    };

    public static void main(String[] args) throws IOException {
        Set<String> due = new TreeSet<>(Arrays.asList(FACE));
        Set<String> got = new TreeSet<>();
        Set<String> names = new TreeSet<>();
        for (Field field : GrammarDesk.class.getDeclaredFields()) {
            if (!Modifier.isPrivate(field.getModifiers())) {
                got.add(field.getName() + ":" + field.getType());
                bench.due("a field is constant", Modifier.isStatic(field.getModifiers())
                    && Modifier.isFinal(field.getModifiers()) && Modifier.isPublic(field.getModifiers()), true);
            }
        }
        for (Method method : GrammarDesk.class.getDeclaredMethods()) {
            if (!Modifier.isPrivate(method.getModifiers())) {
                bench.due(method.getName() + " is public", Modifier.isPublic(method.getModifiers()), true);
                got.add(written(method));
                names.add(method.getName());
            }
        }
        bench.due("the face", got, due);
        bench.due("the class", Modifier.toString(GrammarDesk.class.getModifiers()), "public final");
        Constructor<?>[] constructors = GrammarDesk.class.getDeclaredConstructors();
        bench.due("constructors", constructors.length + " " + constructors[0], "1 public GrammarDesk()");
        insideClasses(names);
        source();
        bench.end();
    }

    private static String written(Method method) {
        StringBuilder text = new StringBuilder();
        text.append(method.getReturnType()).append(' ').append(method.getName()).append('(');
        for (int i = 0; i < method.getParameterCount(); i++) {
            text.append(i == 0 ? "" : ", ").append(method.getParameterTypes()[i]);
        }
        text.append(')');
        for (int i = 0; i < method.getExceptionTypes().length; i++) {
            text.append(i == 0 ? " throws " : ", ").append(method.getExceptionTypes()[i].getSimpleName());
        }
        return text.toString();
    }

    /** Rules 1, 5, 11 and 12. */
    private static void insideClasses(Set<String> names) {
        Class<?>[] inside = GrammarDesk.class.getDeclaredClasses();
        bench.due("rule 11: at most twelve classes", inside.length < 12, true);
        for (Class<?> one : inside) {
            bench.due("rule 1: " + one + " is static", Modifier.isStatic(one.getModifiers()), true);
            for (Method method : one.getDeclaredMethods()) {
                bench.due("rule 1: the name " + method.getName(), names.contains(method.getName()), false);
                bench.due("rule 11: " + method.getName() + " has few parameters", method.getParameterCount() <= 7, true);
            }
            for (Field field : one.getDeclaredFields()) {
                boolean mayChange = field.getType().isPrimitive() && !Modifier.isStatic(field.getModifiers());
                bench.due("rules 5 and 12: " + field, mayChange || Modifier.isFinal(field.getModifiers()), true);
            }
        }
    }

    private static void source() throws IOException {
        String text = Files.readString(Path.of("src/main/java/GrammarDesk.java"));
        String code = text.replaceAll("(?s)/\\*\\*.*?\\*/", "").replaceAll("//.*", "");
        String[] banned = {"import", "package ", "try", "catch", "finally", "->", "::", "synchronized", "assert", "instanceof",
            "equals(", "hashCode", "toString", "Exact", "protected", "double", "float", "while (true", "for (;;"};
        for (String word : banned) {
            bench.due("the source holds " + word, code.contains(word), false);
        }
        // Rule 12: what is made stays in a field (these are final, so it is made once) or is thrown.
        for (String line : code.split("\n")) {
            if (line.contains("new ")) {
                bench.due("rule 12: " + line.strip(), line.matches(" +[a-z]+ = new .*;| +throw new [A-Za-z]+\\(\\);"), true);
            }
        }
    }
}
