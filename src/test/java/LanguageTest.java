import java.io.IOException;
import java.lang.reflect.Constructor;
import java.lang.reflect.Executable;
import java.lang.reflect.Field;
import java.lang.reflect.Method;
import java.lang.reflect.Modifier;
import java.nio.file.Files;
import java.nio.file.Path;
import java.util.Set;
import java.util.TreeSet;
import java.util.regex.Matcher;
import java.util.regex.Pattern;

/** What of LANGUAGE.md can be seen in the source and in the compiled class; run from the project's folder. */
public final class LanguageTest {
    private static final Set<String> FACE = Set.of(
        "int node(int,int,int,int)", "int range(int,int,int)", "int of(int,int)", "int value(int,int)", "int type(int)", "int clear()",
        "int sends()", "int finds()", "int answer()", "int fault()", "int condition(int,int)", "int masks(int,int)", "int edges()",
        "int finishes(int)", "int state(int)", "int answers(int)", "int faults(int)", "int pending(int)", "int back()",
        "int told(int)", "long digest()");
    private static final Set<String> CONSTANTS = Set.of("NONE", "BAD", "NO", "FULL");
    private static final String[] FORBIDDEN = {
        "\\b(throw|throws|try|catch|synchronized|assert|import|package|native|volatile|transient)\\b", "->", "::",
        "\\b(System|Object|Thread|Random|Runtime|Class)\\b", "\\b(equals|hashCode|toString|getClass)\\b", "static\\s*\\{",
        "\\w+Exact\\b", "\\b(double|float|var|record|instanceof|yield)\\b", "\\b(for|while)\\s*\\(\\s*(;\\s*;|true)"
    };

    private LanguageTest() {
    }

    public static void main(String[] args) throws IOException {
        String source = Files.readString(Path.of("src/main/java/BenchOrders.java"));
        String code = withoutComments(source);
        for (String pattern : FORBIDDEN) {
            Matcher m = Pattern.compile(pattern).matcher(code);
            Bench.due("finds of " + pattern, m.find() ? 1 : 0, 0);
        }
        signs(source);
        face();
        inside();
        methodsAreShort(code);
        callsMakeNothing(code);
        Bench.end();
    }

    private static String withoutComments(String source) {
        return source.replaceAll("(?s)/\\*.*?\\*/", " ").replaceAll("//[^\\n]*", " ").replaceAll("\"[^\"\\n]*\"", "\"\"");
    }

    private static void signs(String source) {
        for (int i = 0; i < source.length(); i++) {
            char c = source.charAt(i);
            if (c > 126 || (c < 32 && c != '\n')) {
                Bench.due("sign at " + i, c, 32);
            }
        }
    }

    private static String told(Method m) {
        StringBuilder b = new StringBuilder(m.getReturnType().getName()).append(' ').append(m.getName()).append('(');
        for (Class<?> type : m.getParameterTypes()) {
            b.append(b.charAt(b.length() - 1) == '(' ? "" : ",").append(type.getName());
        }
        return b.append(')').toString();
    }

    private static void face() {
        Class<?> c = BenchOrders.class;
        Bench.due("public final", c.getModifiers() & (Modifier.PUBLIC | Modifier.FINAL), Modifier.PUBLIC | Modifier.FINAL);
        Set<String> open = new TreeSet<>();
        Set<String> hidden = new TreeSet<>();
        for (Method m : c.getDeclaredMethods()) {
            boolean isOpen = Modifier.isPublic(m.getModifiers());
            Bench.due("public or private: " + m, isOpen || Modifier.isPrivate(m.getModifiers()) ? 1 : 0, 1);
            (isOpen ? open : hidden).add(isOpen ? told(m) : m.getName());
        }
        Bench.due("the face is " + open, open.equals(FACE) ? 1 : 0, 1);
        for (String method : FACE) {
            String name = method.substring(method.indexOf(' ') + 1, method.indexOf('('));
            Bench.due("a private " + name, hidden.contains(name) ? 1 : 0, 0);
        }
        Constructor<?>[] made = c.getDeclaredConstructors();
        Bench.due("constructors", made.length, 1);
        Bench.due("its parameters", made[0].getParameterCount(), 0);
        Bench.due("it is public", made[0].getModifiers(), Modifier.PUBLIC);
        for (Field f : c.getDeclaredFields()) {
            int want = CONSTANTS.contains(f.getName()) ? Modifier.PUBLIC : Modifier.PRIVATE;
            Bench.due("seen: " + f, f.getModifiers() & (Modifier.PUBLIC | Modifier.PROTECTED | Modifier.PRIVATE), want);
        }
    }

    private static void inside() {
        Class<?>[] classes = BenchOrders.class.getDeclaredClasses();
        Bench.due("at most twelve classes", classes.length + 1 <= 12 ? 1 : 0, 1);
        checkClass(BenchOrders.class);
        for (Class<?> c : classes) {
            Bench.due("static: " + c, Modifier.isStatic(c.getModifiers()) ? 1 : 0, 1);
            Bench.due("not public: " + c, c.getModifiers() & (Modifier.PUBLIC | Modifier.PROTECTED), 0);
            Bench.due("nothing inside " + c, c.getDeclaredClasses().length, 0);
            checkClass(c);
        }
    }

    private static void checkClass(Class<?> c) {
        int fields = 0;
        for (Field f : c.getDeclaredFields()) {
            boolean isStatic = Modifier.isStatic(f.getModifiers());
            fields += isStatic ? 0 : 1;
            Bench.due("static and not final: " + f, isStatic && !Modifier.isFinal(f.getModifiers()) ? 1 : 0, 0);
            Bench.due("static and no constant: " + f, isStatic && f.getType() != int.class ? 1 : 0, 0);
        }
        Bench.due("fields of " + c + ": " + fields, fields <= 20 ? 1 : 0, 1);
        for (Executable m : c.getDeclaredMethods()) {
            Bench.due("parameters of " + m, m.getParameterCount() <= 7 ? 1 : 0, 1);
        }
    }

    private static void methodsAreShort(String code) {
        String[] lines = code.split("\n");
        int depth = 0;
        int start = -1;
        int outside = 0;
        int methods = 0;
        for (int i = 0; i < lines.length; i++) {
            if (start < 0 && lines[i].endsWith(") {")) {
                start = i;
                outside = depth;
                methods++;
            }
            depth += lines[i].replaceAll("[^{]", "").length() - lines[i].replaceAll("[^}]", "").length();
            if (start >= 0 && depth == outside) {
                Bench.due("lines of '" + lines[start].trim() + "': " + (i - start + 1), i - start < 60 ? 1 : 0, 1);
                start = -1;
            }
        }
        Bench.due("methods are seen: " + methods, methods > FACE.size() ? 1 : 0, 1);
    }

    /** Objects are made by constructors and at the fields alone, so that a run's room does not fill. */
    private static void callsMakeNothing(String code) {
        Matcher m = Pattern.compile("\\n([^\\n]*\\bnew\\b[^\\n]*)").matcher(code);
        int count = 0;
        while (m.find()) {
            String line = m.group(1).trim();
            boolean isField = line.startsWith("final ");
            boolean isConstructor = line.matches("(text|tree|unit|now|history|nodes\\[n\\]|kept\\[i\\]|items) = new .*");
            Bench.due("made by '" + line + "'", isField || isConstructor ? 1 : 0, 1);
            count++;
        }
        Bench.due("some are seen", count > 0 ? 1 : 0, 1);
    }
}
