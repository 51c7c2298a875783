import java.lang.reflect.Constructor;
import java.lang.reflect.Field;
import java.lang.reflect.Method;
import java.lang.reflect.Modifier;
import java.nio.charset.StandardCharsets;
import java.nio.file.Files;
import java.nio.file.Path;
import java.util.Arrays;
import java.util.List;
import java.util.Set;
import java.util.TreeSet;

/** The face of the class, as the document has it, and what of ../shared/LANGUAGE.md a text can show. */
public final class FaceTest {
    private static final Check C = new Check();
    private static final String SOURCE = "src/main/java/BothSides.java";
    /** Behind each call its throws in their order: S no such element, A argument, I state, B out of bounds. */
    private static final List<String> FACE = List.of(
        "int feed(int,int,int,int,int)", "int drawing(int) A", "int fault(int)", "int line(int,int) S A",
        "int lineAt(int,int) S", "int ends(int,int) S A", "int knot(int)", "int parts(int) A", "int partOf(int) S",
        "int length(int) A", "int crossings(boolean)", "boolean alike(int) A", "void begin(int,int,boolean) S A", "int cut() I",
        "int may(int) S", "int stitch(int) S", "int unpick(int) I A", "int thread(int) I A", "int done(int) I",
        "int judge(int,int) S I A", "int perform(int) S I", "int left() I", "int barred(int) I A", "int ending() I",
        "int working(int) I", "int work() I", "int ways() I", "int unpicked(boolean,int) I A", "int places(int) A",
        "int threads(int,int) A", "int seen(boolean)", "boolean same()", "int sameAt(int) I", "int unlike(int) S",
        "void tray(int,int,int) S A", "long write(int,int,long) S I B", "void image(int) S", "void restore(int) S I",
        "int count(int)");
    private static final List<String> FORBIDDEN = List.of("->", "::", "catch", "finally", "synchronized", "assert",
        "@", "static {", "Exact(", "instanceof", "Object", "float", "double", "while (true)", "for (;;)", "hashCode",
        "equals(", "System.out", "Random", "Thread.", "nanoTime", "currentTimeMillis", "String.format", "\" +", "+ \"");

    private FaceTest() {
    }

    public static void main(String[] args) throws Exception {
        methods();
        others();
        source();
        C.end();
    }

    private static void methods() {
        Set<String> names = new TreeSet<>();
        Set<String> found = new TreeSet<>();
        for (Method m : BothSides.class.getDeclaredMethods()) {
            if (Modifier.isPublic(m.getModifiers())) {
                names.add(m.getName());
                StringBuilder types = new StringBuilder();
                for (Class<?> type : m.getParameterTypes()) {
                    types.append(types.length() == 0 ? "" : ",").append(type.getName());
                }
                found.add(m.getReturnType().getName() + " " + m.getName() + "(" + types + ")" + told(m));
            }
        }
        C.due("the face's methods", found.toString(), new TreeSet<>(FACE).toString());
        for (Method m : BothSides.class.getDeclaredMethods()) {
            if (!Modifier.isPublic(m.getModifiers())) {
                C.due(m.getName() + " is private", Modifier.isPrivate(m.getModifiers()), true);
                C.due(m.getName() + " bears a public name", names.contains(m.getName()), false);
            }
        }
        for (Class<?> inner : BothSides.class.getDeclaredClasses()) {
            C.due(inner.getName() + " is static", Modifier.isStatic(inner.getModifiers()), true);
            C.due(inner.getName() + " is private", Modifier.isPrivate(inner.getModifiers()), true);
            for (Method m : inner.getDeclaredMethods()) {
                C.due(m + " bears a public name", names.contains(m.getName()), false);
                C.due(m + " takes seven at most", m.getParameterCount() <= 7, true);
            }
            fields(inner);
        }
        C.due("classes", BothSides.class.getDeclaredClasses().length <= 11, true);
    }

    private static String told(Method m) {
        StringBuilder row = new StringBuilder();
        for (Class<?> thrown : m.getExceptionTypes()) {
            row.append(" ").append(letter(thrown.getSimpleName()));
        }
        return row.toString();
    }

    private static String letter(String name) {
        switch (name) {
            case "NoSuchElementException": return "S";
            case "IllegalArgumentException": return "A";
            case "IllegalStateException": return "I";
            case "IndexOutOfBoundsException": return "B";
            default: return name;
        }
    }

    private static void fields(Class<?> of) {
        int own = 0;
        for (Field f : of.getDeclaredFields()) {
            own += Modifier.isStatic(f.getModifiers()) ? 0 : 1;
            C.due(f + " is final if static", !Modifier.isStatic(f.getModifiers()) || Modifier.isFinal(f.getModifiers()), true);
        }
        C.due(of + " has twenty fields at most", own <= 20, true);
    }

    private static void others() {
        C.due("public", Modifier.isPublic(BothSides.class.getModifiers()), true);
        C.due("final", Modifier.isFinal(BothSides.class.getModifiers()), true);
        Set<String> constants = new TreeSet<>();
        for (Field f : BothSides.class.getDeclaredFields()) {
            if (!Modifier.isPrivate(f.getModifiers())) {
                constants.add(f.getName());
            }
        }
        C.due("the constants", constants.toString(), "[NONE, SPENT]");
        Constructor<?>[] made = BothSides.class.getDeclaredConstructors();
        C.due("one constructor", made.length == 1 && made[0].getParameterCount() == 0 && Modifier.isPublic(made[0].getModifiers()), true);
        fields(BothSides.class);
    }

    private static void source() throws Exception {
        List<String> lines = Files.readAllLines(Path.of(SOURCE), StandardCharsets.US_ASCII);
        int began = 0;
        for (int k = 0; k < lines.size(); k++) {
            String line = lines.get(k).replaceAll("/\\*\\*.*|//.*", "");
            for (String word : FORBIDDEN) {
                C.due("line " + (k + 1) + " has " + word, line.contains(word), false);
            }
            if (line.startsWith("import ")) {
                C.due(line, Arrays.asList("import java.util.Arrays;", "import java.util.NoSuchElementException;").contains(line), true);
            }
            if (line.matches(" {4}( {4})?[\\w<\\[].*\\) .*\\{")) {
                began = k;
            }
            if (line.matches(" {4}( {4})?\\}")) {
                C.due("lines of the method that ends at " + (k + 1), began == 0 || k - began <= 60, true);
                began = 0;
            }
        }
    }
}
