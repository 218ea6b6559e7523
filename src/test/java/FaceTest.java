import java.io.IOException;
import java.lang.reflect.Constructor;
import java.lang.reflect.Field;
import java.lang.reflect.Method;
import java.lang.reflect.Modifier;
import java.nio.file.Files;
import java.nio.file.Path;
import java.util.Arrays;
import java.util.List;
import java.util.Map;
import java.util.Set;
import java.util.TreeMap;
import java.util.TreeSet;
import java.util.regex.Pattern;

/** The document's face, no more and no less, and what a text can show of the rules of LANGUAGE.md. */
public final class FaceTest {
    private static final String IO = "IndexOutOfBoundsException";
    private static final String IA = "IllegalArgumentException";
    private static final String IS = "IllegalStateException";
    private static final String NE = "NoSuchElementException";
    private static final String UO = "UnsupportedOperationException";

    private FaceTest() {
    }

    public static void main(String[] args) throws IOException {
        methods();
        otherMembers();
        source();
        Checks.finish();
    }

    private static Map<String, List<String>> face() {
        Map<String, List<String>> face = new TreeMap<>();
        face.put("boolean shape(int, long)", List.of(IO));
        face.put("int row(int, int)", List.of(IO));
        face.put("boolean conjugate(int)", List.of(IO));
        face.put("int rank(int)", List.of(IO));
        face.put("void unrank(int, int, int)", List.of(IO, IA, NE, UO));
        face.put("boolean letter(int, int)", List.of(IO));
        face.put("boolean cut(int, int)", List.of(IO));
        face.put("int length(int)", List.of(IO));
        face.put("int at(int, int)", List.of(IO));
        face.put("int insert(int, boolean)", List.of(IO));
        face.put("int entry(boolean, int, int)", List.of());
        face.put("void recover(int)", List.of(IO, IS));
        face.put("void read(int)", List.of(IO, IS));
        face.put("boolean equivalent()", List.of());
        face.put("int rectify(int, int, int, int)", List.of(IO, IA, IS, UO));
        face.put("void turn()", List.of(IS));
        face.put("long draw(int, long)", List.of(IO));
        face.put("long standard(int)", List.of(IO));
        face.put("long fillings(int, int)", List.of(IO));
        face.put("long coefficient(int, int, int)", List.of(IO));
        face.put("long character(int, int)", List.of(IO, IS, UO));
        return face;
    }

    private static String head(Method m) {
        List<String> parameters = Arrays.stream(m.getParameterTypes()).map(Class::getSimpleName).toList();
        return m.getReturnType().getSimpleName() + " " + m.getName() + "(" + String.join(", ", parameters) + ")";
    }

    private static void methods() {
        Map<String, List<String>> got = new TreeMap<>();
        Set<String> open = new TreeSet<>();
        for (Method m : TableauBench.class.getDeclaredMethods()) {
            if (!Modifier.isPrivate(m.getModifiers())) {
                got.put(head(m), Arrays.stream(m.getExceptionTypes()).map(Class::getSimpleName).toList());
                open.add(m.getName());
                Checks.same(m.getName() + " is public and of objects", m.getModifiers(), Modifier.PUBLIC);
            }
        }
        Checks.same("the methods", got.toString(), face().toString());
        noHiddenNamesake(TableauBench.class, open);
        for (Class<?> inside : TableauBench.class.getDeclaredClasses()) {
            noHiddenNamesake(inside, open);
        }
    }

    private static void noHiddenNamesake(Class<?> holder, Set<String> open) {
        for (Method m : holder.getDeclaredMethods()) {
            boolean hidden = Modifier.isPrivate(m.getModifiers());
            Checks.same("a hidden " + m.getName() + " in " + holder.getName(), hidden && open.contains(m.getName()), false);
        }
    }

    private static void otherMembers() {
        Class<TableauBench> c = TableauBench.class;
        Checks.same("public and final", c.getModifiers(), Modifier.PUBLIC | Modifier.FINAL);
        Checks.same("no package", c.getPackageName(), "");
        for (Field f : c.getDeclaredFields()) {
            Checks.same("field " + f.getName() + " is private", Modifier.isPrivate(f.getModifiers()), true);
            boolean open = Modifier.isStatic(f.getModifiers()) && !Modifier.isFinal(f.getModifiers());
            Checks.same("the static " + f.getName() + " can change", open, false);
        }
        Constructor<?>[] makers = c.getDeclaredConstructors();
        Checks.same("constructors", makers.length, 1);
        Checks.same("the constructor", makers[0].getModifiers() * 10L + makers[0].getParameterCount(), 10L * Modifier.PUBLIC);
        for (Class<?> inside : c.getDeclaredClasses()) {
            Checks.same(inside.getName() + " is static", Modifier.isStatic(inside.getModifiers()), true);
            Checks.same(inside.getName() + " is not open",
                Modifier.isPublic(inside.getModifiers()) || Modifier.isProtected(inside.getModifiers()), false);
            for (Field f : inside.getDeclaredFields()) {
                boolean open = Modifier.isStatic(f.getModifiers()) && !Modifier.isFinal(f.getModifiers());
                Checks.same("the static " + f.getName() + " of " + inside.getName() + " can change", open, false);
            }
            long own = Arrays.stream(inside.getDeclaredFields()).filter(f -> !Modifier.isStatic(f.getModifiers())).count();
            Checks.same(inside.getName() + " has few fields", own <= 20, true);
        }
        Checks.same("few classes inside", c.getDeclaredClasses().length <= 11, true);
    }

    private static void source() throws IOException {
        Path file = Path.of(System.getProperty("project", "."), "src/main/java/TableauBench.java");
        String text = Files.readString(file).replaceAll("(?s)/\\*.*?\\*/", "").replaceAll("//[^\n]*", "");
        String code = text.replaceAll("\"[^\"]*\"", "\"\"");
        String[] outside = {"(?<!case [^\n]{1,40}|default )->", "::", "\\bfinally\\b", "\\bsynchronized\\b", "\\bassert\\b",
            "\\btry\\s*\\(", "\\bstatic\\s*\\{", "\\bpackage\\b", "\\bSystem\\.(?!arraycopy)", "Exact\\b", "\\bvar\\b",
            "\\bimport\\s+(?!java\\.util\\.(Arrays|ArrayList|List|Iterator|NoSuchElementException);)",
            "\\bArrays\\.(?!fill\\(|copyOf\\(|copyOfRange\\()", "\\b(Random|Thread|Runtime|Clock|Instant)\\b",
            "\\bextends\\s+\\w*(Exception|Error|Throwable)\\b", "\\bgetMessage\\b",
            "\\bthrow\\s+(?!new (IllegalState|IllegalArgument|IndexOutOfBounds|Arithmetic|UnsupportedOperation|NoSuchElement|Runtime)"
                + "Exception\\()"};
        for (String pattern : outside) {
            Checks.same("the program has " + pattern, Pattern.compile(pattern).matcher(code).find(), false);
        }
        lengthsOfMethods(code);
    }

    private static void lengthsOfMethods(String code) {
        int length = 0;
        for (String line : code.split("\n")) {
            length++;
            if (line.matches(" {4,8}\\}") || line.matches(" {4,8}\\w.*;")) {
                length = 0;
            }
            Checks.same("a method of more than sixty lines near " + line.trim(), length > 60, false);
        }
    }
}
