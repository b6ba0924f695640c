import java.io.IOException;
import java.lang.reflect.Constructor;
import java.lang.reflect.Field;
import java.lang.reflect.Method;
import java.lang.reflect.Modifier;
import java.nio.file.Files;
import java.nio.file.Path;
import java.util.ArrayList;
import java.util.HashSet;
import java.util.List;
import java.util.Set;
import java.util.TreeSet;

/** The public face, and those of the language's rules that can be seen from outside. */
public final class FaceTest {
    private static final Path SOURCE = Path.of("src/main/java/RodBench.java");
    private static final int MOST_CLASSES = 12;
    private static final int MOST_FIELDS = 20;
    private static final int MOST_PARAMETERS = 7;
    private static final int MOST_LINES = 60;

    private FaceTest() {
    }

    public static void main(String[] args) throws IOException {
        constants();
        face();
        classesInside();
        words();
        methodLengths();
        Due.end();
    }

    private static void constants() {
        Due.is("NONE", -1, RodBench.NONE);
        Due.is("BAD", -2, RodBench.BAD);
        Due.is("STATE", -3, RodBench.STATE);
        Due.is("FULL", -4, RodBench.FULL);
        Due.is("NO", -4611686018427387904L, RodBench.NO);
    }

    private static void face() {
        Set<String> due = new TreeSet<>(List.of(
            "int pin(int,int)", "int move(int,int,int)", "int hold(int,boolean)",
            "int rod(int,int,int,int)", "int put(int,boolean)", "int count(int)",
            "int pinTold(int,int)", "int rodTold(int,int)", "long motion(int,int,int)",
            "long stress(int,int)", "int stiff()", "int tight()", "int load(int,int,int)",
            "int carry()", "long force(int,int)", "int gives()", "int could()", "int body(int,int)",
            "int plan(int)", "int cheapest()", "int tray(int,int,int)", "int forge(int,int,int)",
            "int status()"));
        Set<String> seen = new TreeSet<>();
        for (Method method : RodBench.class.getDeclaredMethods()) {
            if (Modifier.isPublic(method.getModifiers())) {
                Due.holds(method + " is no static one", !Modifier.isStatic(method.getModifiers()));
                List<String> types = new ArrayList<>();
                for (Class<?> type : method.getParameterTypes()) {
                    types.add(type.getName());
                }
                seen.add(method.getReturnType() + " " + method.getName() + "(" + String.join(",", types) + ")");
            } else {
                Due.holds(method + " is private", Modifier.isPrivate(method.getModifiers()) || method.isSynthetic());
            }
        }
        Due.holds("the public methods are those of the document: " + seen, seen.equals(due));
        Set<String> constants = new TreeSet<>();
        for (Field field : RodBench.class.getDeclaredFields()) {
            if (Modifier.isPrivate(field.getModifiers())) {
                continue;
            }
            int asked = Modifier.PUBLIC | Modifier.STATIC | Modifier.FINAL;
            Due.is("modifiers of " + field, asked, field.getModifiers());
            constants.add(field.getType() + " " + field.getName());
        }
        Due.holds("the public constants: " + constants, constants.equals(
            Set.of("int NONE", "int BAD", "int STATE", "int FULL", "long NO")));
        Constructor<?>[] constructors = RodBench.class.getDeclaredConstructors();
        Due.is("constructors", 1, constructors.length);
        Due.is("modifiers of it", Modifier.PUBLIC, constructors[0].getModifiers());
        Due.is("parameters of it", 0, constructors[0].getParameterCount());
        Due.is("modifiers of the class", Modifier.PUBLIC | Modifier.FINAL, RodBench.class.getModifiers());
        Due.holds("no package", RodBench.class.getPackageName().isEmpty());
    }

    private static void classesInside() {
        Class<?>[] inside = RodBench.class.getDeclaredClasses();
        Due.holds("not too many classes: " + inside.length, inside.length + 1 <= MOST_CLASSES);
        Set<String> publicNames = new HashSet<>();
        for (Method method : RodBench.class.getMethods()) {
            publicNames.add(method.getName());
        }
        List<Class<?>> all = new ArrayList<>(List.of(inside));
        all.add(RodBench.class);
        for (Class<?> one : all) {
            int fields = 0;
            for (Field field : one.getDeclaredFields()) {
                boolean isStatic = Modifier.isStatic(field.getModifiers());
                Due.holds(field + " is final if it is static", !isStatic || Modifier.isFinal(field.getModifiers()));
                fields += isStatic ? 0 : 1;
            }
            Due.holds("not too many fields in " + one, fields <= MOST_FIELDS);
            for (Method method : one.getDeclaredMethods()) {
                Due.holds("not too many parameters: " + method, method.getParameterCount() <= MOST_PARAMETERS);
                boolean isFace = one == RodBench.class && Modifier.isPublic(method.getModifiers());
                Due.holds("no name of a public method: " + method, isFace || !publicNames.contains(method.getName()));
            }
            if (one != RodBench.class) {
                Due.holds(one + " is static", Modifier.isStatic(one.getModifiers()));
                Due.holds(one + " is not public", !Modifier.isPublic(one.getModifiers()));
            }
        }
    }

    /** Words and signs that the language leaves out; looked for outside comments. */
    private static void words() throws IOException {
        String code = Files.readString(SOURCE).replaceAll("(?s)/\\*.*?\\*/", " ").replaceAll("//[^\n]*", " ");
        for (String word : List.of("throw", "throws", "try", "catch", "finally", "synchronized", "assert", "yield",
            "package", "Exception", "Object", "Random", "Thread", "equals", "hashCode", "float", "double", "protected",
            "volatile", "native", "var")) {
            Due.holds("no word " + word, !code.matches("(?s).*\\b" + word + "\\b.*"));
        }
        for (String sign : List.of("->", "::", "@", "Exact", "System.", "java.io", "java.time", "...")) {
            Due.holds("no sign " + sign, !code.contains(sign));
        }
        Set<String> imports = new TreeSet<>();
        for (String line : code.split("\n")) {
            if (line.startsWith("import ")) {
                imports.add(line.trim());
            }
        }
        Due.holds("the imports: " + imports,
            Set.of("import java.util.ArrayList;", "import java.util.List;").containsAll(imports));
        Due.holds("no sign above 127", code.chars().allMatch(sign -> sign < 128));
    }

    /** A method starts with a line that ends with a brace, four or eight signs in, and has brackets. */
    private static void methodLengths() throws IOException {
        List<String> lines = Files.readAllLines(SOURCE);
        int methods = 0;
        for (int i = 0; i < lines.size(); i++) {
            if (lines.get(i).matches("( {4}| {8})\\S[^=]*\\(.*\\) \\{") && !lines.get(i).contains(" class ")) {
                String indent = lines.get(i).replaceAll("\\S.*", "");
                int end = i;
                while (end < lines.size() && !lines.get(end).equals(indent + "}")) {
                    end++;
                }
                Due.holds("short enough: " + lines.get(i).trim(), end - i < MOST_LINES);
                methods++;
            }
        }
        Due.holds("methods were seen: " + methods, methods > 60);
    }
}
