import java.io.IOException;
import java.lang.reflect.Constructor;
import java.lang.reflect.Field;
import java.lang.reflect.Method;
import java.lang.reflect.Modifier;
import java.nio.charset.StandardCharsets;
import java.nio.file.Files;
import java.nio.file.Path;
import java.util.List;
import java.util.Set;
import java.util.TreeSet;
import java.util.regex.Matcher;
import java.util.regex.Pattern;

/** What of ../shared/LANGUAGE.md can be seen from outside and from the words of the file. */
public final class LanguageTests {
    private static final Due DUE = new Due("LanguageTests");
    private static final Path FILE = Path.of("src/main/java/StepOrders.java");
    private static final List<String> FACE = List.of("again()", "back()", "clear()", "depend(int, int, int, int)",
        "digest()", "does(int)", "drops(int)", "ends(int)", "number(int, int)", "of(int, int, int)",
        "order(int, int)", "orders(int)", "race(int, int, int, int)", "races()", "reads()", "run(int)",
        "sort(int, int)", "step(int, int, int, int)", "told(int)", "type(int)", "which()");
    private static final List<String> OUTSIDE = List.of("throw", "throws", "try", "catch", "synchronized", "assert",
        "import", "package", "static \\{", "->", "::", "var", "Exact", "System\\.(?!arraycopy)", "Object", "hashCode",
        "toString", "Random", "Thread\\b", "volatile", "transient", "native", "protected", "float", "double");

    private static void face() {
        Set<String> got = new TreeSet<>();
        for (Method m : StepOrders.class.getDeclaredMethods()) {
            String one = m.toString();
            String name = m.getName() + one.substring(one.indexOf('(')).replace(",", ", ");
            if (Modifier.isPublic(m.getModifiers())) {
                got.add(name);
                DUE.is(name + " gives its type", m.getReturnType() == (name.equals("digest()") ? long.class : int.class) ? 1 : 0, 1);
            } else {
                DUE.is(name + " is private", Modifier.isPrivate(m.getModifiers()) ? 1 : 0, 1);
                DUE.is(name + " bears no public name", FACE.stream().anyMatch(f -> f.startsWith(m.getName() + "(")) ? 1 : 0, 0);
            }
        }
        DUE.is("face " + got, got.equals(new TreeSet<>(FACE)) ? 1 : 0, 1);
        for (Constructor<?> c : StepOrders.class.getDeclaredConstructors()) {
            DUE.is(c + " is the public one", Modifier.isPublic(c.getModifiers()) && c.getParameterCount() == 0 ? 1 : 0, 1);
        }
    }

    private static void fields() {
        Set<String> constants = new TreeSet<>();
        for (Field f : StepOrders.class.getDeclaredFields()) {
            if (Modifier.isPublic(f.getModifiers())) {
                constants.add(f.getName());
            } else {
                DUE.is(f + " is private", Modifier.isPrivate(f.getModifiers()) ? 1 : 0, 1);
            }
            dueStatic(f);
        }
        DUE.is("constants " + constants, constants.equals(Set.of("NONE", "BAD", "NO", "FULL")) ? 1 : 0, 1);
        DUE.is("NONE", StepOrders.NONE, -1);
        DUE.is("BAD", StepOrders.BAD, -2);
        DUE.is("NO", StepOrders.NO, -3);
        DUE.is("FULL", StepOrders.FULL, -4);
        Class<?>[] inside = StepOrders.class.getDeclaredClasses();
        DUE.is("some twelve classes", inside.length <= 11 ? 1 : 0, 1);
        for (Class<?> c : inside) {
            DUE.is(c + " is static", Modifier.isStatic(c.getModifiers()) ? 1 : 0, 1);
            DUE.is(c + " is not public", Modifier.isPublic(c.getModifiers()) ? 1 : 0, 0);
            for (Field f : c.getDeclaredFields()) {
                dueStatic(f);
            }
        }
    }

    private static void dueStatic(Field f) {
        if (Modifier.isStatic(f.getModifiers())) {
            DUE.is(f + " is final", Modifier.isFinal(f.getModifiers()) ? 1 : 0, 1);
            DUE.is(f + " is a constant", f.getType().isPrimitive() ? 1 : 0, 1);
        }
    }

    private static void words(String code) {
        for (String word : OUTSIDE) {
            String whole = Character.isLetter(word.charAt(0)) ? "\\b" + word + (word.endsWith(")") ? "" : "\\b") : word;
            DUE.is("'" + word + "' stands in the file", Pattern.compile(whole).matcher(code).find() ? 1 : 0, 0);
        }
        for (int k = 0; k < code.length(); k++) {
            if (code.charAt(k) > 126) {
                DUE.is("a sign above 126 at " + k, code.charAt(k), ' ');
            }
        }
    }

    /** Objects are made in constructors alone, so that no call makes any. */
    private static void making(String code) {
        for (String line : code.split("\n")) {
            if (line.contains("new ")) {
                DUE.is(line.strip(), line.contains("private final ") || line.contains("kept[k] = new State()") ? 1 : 0, 1);
            }
        }
    }

    private static void lengths(String code) {
        Matcher m = Pattern.compile("(?m)^( +)[a-z][^=;\n]*\\(([^)\n]*)\\) \\{\n(?:.*\n)*?\\1\\}").matcher(code);
        int methods = 0;
        for (int at = 0; m.find(at) && methods < 1000; at = m.start(2)) {
            methods++;
            DUE.is("lines of " + m.group().strip().lines().findFirst().orElse(""), m.group().lines().count() <= 60 ? 1 : 0, 1);
            DUE.is("parameters of it", m.group(2).split(",").length <= 7 ? 1 : 0, 1);
        }
        DUE.is("methods were found", methods > 60 ? 1 : 0, 1);
    }

    public static void main(String[] args) throws IOException {
        String text = Files.readString(FILE, StandardCharsets.UTF_8);
        String code = text.replaceAll("(?s)/\\*.*?\\*/", "").replaceAll("//[^\n]*", "");
        face();
        fields();
        words(code);
        making(code);
        lengths(code);
        DUE.end();
    }
}
