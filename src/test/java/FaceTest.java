import java.lang.reflect.Constructor;
import java.lang.reflect.Field;
import java.lang.reflect.Method;
import java.lang.reflect.Modifier;
import java.nio.file.Files;
import java.nio.file.Path;
import java.util.ArrayList;
import java.util.List;
import java.util.TreeSet;
import java.util.regex.Matcher;
import java.util.regex.Pattern;

/** The face as the document has it, and the rules of LANGUAGE.md that can be looked up. */
public final class FaceTest {
    private static final Due DUE = new Due("FaceTest");

    private static final String[] METHODS = {
        "input()", "keeper(boolean)", "gate(int,int,int)", "source(int,int)", "out(int)",
        "cell(int,int)", "cuts(int)", "cut(int,int)", "depth(int)", "tables()", "table(int,int)",
        "cloth(int,int,int,int)", "broken(int,boolean)", "set()", "tile(int)", "move(int,int)",
        "swap(int,int)", "smooth(int,long)", "cost()", "wires(int,int)", "lead(int)", "joint(int)",
        "way(int,int)", "side(int,int)", "longest()", "frames()", "octet(int,int)",
        "bend(int,int,int)", "check()", "back()", "start()", "clock(int)", "told(int)", "lay(int)",
        "tear()", "row(int)", "copy(int,int,int)", "status(int)"};

    private static final String[] CONSTANTS = {
        "NONE", "MISSING", "BEYOND", "BELOW", "KIND", "COPY", "NO", "FULL"};

    private static final Path SOURCE = Path.of(System.getProperty("clothmaker.home", "."))
            .resolve("src/main/java/ClothMaker.java");
    private static final Path DOCUMENT = Path.of(System.getProperty("clothmaker.shared", "../shared"))
            .resolve("DOC.md");

    public static void main(String[] args) throws Exception {
        asTheDocumentHasIt();
        face();
        constants();
        classesInside();
        sourceWords();
        DUE.end();
    }

    /** Each line of the document's face stands in the source, names of parameters too; none besides. */
    private static void asTheDocumentHasIt() throws Exception {
        if (!Files.exists(DOCUMENT)) {
            System.out.println("FaceTest: no " + DOCUMENT + ": only what stands here is looked at");
            return;
        }
        String document = Files.readString(DOCUMENT);
        String begin = "```java\npublic final class ClothMaker {\n";
        int from = document.indexOf(begin);
        int to = document.indexOf("```", from + begin.length());
        DUE.holds("the document has a face", from >= 0 && to > from);
        if (from < 0 || to <= from) {
            return;
        }
        TreeSet<String> due = new TreeSet<>();
        for (String line : document.substring(from + begin.length(), to).split("\n")) {
            if (line.startsWith("    public ")) {
                due.add(line.trim());
            }
        }
        TreeSet<String> there = new TreeSet<>();
        for (String line : Files.readAllLines(SOURCE)) {
            if (line.startsWith("    public ")) {
                there.add(line.trim().replace(" {", ";"));
            }
        }
        DUE.same("members", due.size(), CONSTANTS.length + 1 + METHODS.length);
        DUE.holds("the face: " + there, there.equals(due));
    }

    private static void face() {
        Class<?> face = ClothMaker.class;
        DUE.holds("public", Modifier.isPublic(face.getModifiers()));
        DUE.holds("final", Modifier.isFinal(face.getModifiers()));
        TreeSet<String> due = new TreeSet<>(List.of(METHODS));
        TreeSet<String> there = new TreeSet<>();
        for (Method m : face.getDeclaredMethods()) {
            if (!Modifier.isPrivate(m.getModifiers()) && !m.isSynthetic()) {
                there.add(signature(m));
                DUE.holds(m + " is public", Modifier.isPublic(m.getModifiers()));
                DUE.holds(m + " is of the object", !Modifier.isStatic(m.getModifiers()));
                DUE.holds(m + " answers an int", m.getReturnType() == int.class);
            }
        }
        DUE.holds("methods: " + there, there.equals(due));
        Constructor<?>[] makers = face.getDeclaredConstructors();
        DUE.same("constructors", makers.length, 1);
        DUE.same("its parameters", makers[0].getParameterCount(), 0);
    }

    private static String signature(Method m) {
        List<String> types = new ArrayList<>();
        for (Class<?> t : m.getParameterTypes()) {
            types.add(t.getName());
        }
        return m.getName() + "(" + String.join(",", types) + ")";
    }

    private static void constants() throws Exception {
        TreeSet<String> there = new TreeSet<>();
        for (Field f : ClothMaker.class.getDeclaredFields()) {
            if (!Modifier.isPrivate(f.getModifiers()) && !f.isSynthetic()) {
                there.add(f.getName());
            }
        }
        DUE.holds("constants: " + there, there.equals(new TreeSet<>(List.of(CONSTANTS))));
        for (int k = 0; k < CONSTANTS.length; k++) {
            Field f = ClothMaker.class.getDeclaredField(CONSTANTS[k]);
            DUE.same(CONSTANTS[k], f.getInt(null), -1 - k);
            DUE.holds(f + " is constant", Modifier.isFinal(f.getModifiers()));
        }
    }

    private static void classesInside() {
        TreeSet<String> names = new TreeSet<>();
        for (String m : METHODS) {
            names.add(m.substring(0, m.indexOf('(')));
        }
        List<Class<?>> all = new ArrayList<>(List.of(ClothMaker.class.getDeclaredClasses()));
        DUE.holds("rule 11: classes", all.size() + 1 <= 12);
        for (Class<?> inside : all) {
            DUE.holds("rule 2: " + inside + " static", Modifier.isStatic(inside.getModifiers()));
            DUE.holds("rule 1: " + inside + " private", Modifier.isPrivate(inside.getModifiers()));
            for (Method m : inside.getDeclaredMethods()) {
                DUE.holds("rule 1: the name of " + m, !names.contains(m.getName()));
            }
        }
        all.add(ClothMaker.class);
        for (Class<?> c : all) {
            int fields = 0;
            for (Field f : c.getDeclaredFields()) {
                boolean isStatic = Modifier.isStatic(f.getModifiers());
                fields += isStatic ? 0 : 1;
                DUE.holds("rule 5: " + f, !isStatic || Modifier.isFinal(f.getModifiers()));
            }
            DUE.holds("rule 11: fields of " + c, fields <= 20);
            for (Method m : c.getDeclaredMethods()) {
                DUE.holds("rule 11: parameters of " + m, m.getParameterCount() <= 7);
                boolean hidden = c != ClothMaker.class || Modifier.isPrivate(m.getModifiers());
                DUE.holds("rule 1: the name of " + m, !hidden || !names.contains(m.getName()));
            }
        }
    }

    private static void sourceWords() throws Exception {
        String source = Files.readString(SOURCE);
        String code = source.replaceAll("(?s)/\\*.*?\\*/", "").replaceAll("//[^\n]*", "");
        String[] words = {"throw", "throws", "try", "catch", "finally", "synchronized", "assert",
            "package", "volatile", "Thread", "Random", "Object", "equals", "hashCode", "toString"};
        for (String word : words) {
            DUE.holds("no '" + word + "'", !found(code, "\\b" + word + "\\b"));
        }
        DUE.holds("no lambda", !code.contains("->"));
        DUE.holds("no method reference", !code.contains("::"));
        DUE.holds("no static block", !found(code, "static\\s*\\{"));
        DUE.holds("no division, so none by 0", !found(code, "[^/]/[^/]"));
        DUE.holds("rule 4: System", !found(code, "System\\.(?!arraycopy\\b)"));
        DUE.holds("rule 4: Arrays", !found(code, "Arrays\\.(?!(fill|copyOf|copyOfRange)\\b)"));
        DUE.holds("rule 4: imports", !found(code, "import (?!java\\.util\\.Arrays;)"));
        methodsAreShort(source);
    }

    private static boolean found(String code, String pattern) {
        return Pattern.compile(pattern).matcher(code).find();
    }

    /** A method begins and ends with the same indent, of 4 or 8. */
    private static void methodsAreShort(String source) {
        String[] lines = source.split("\n");
        Pattern head = Pattern.compile("^(    |        )[a-z][A-Za-z \\[\\]]*\\(.*");
        for (int i = 0; i < lines.length; i++) {
            Matcher m = head.matcher(lines[i]);
            if (m.matches() && !lines[i].contains("=") && !lines[i].contains(";")) {
                String end = m.group(1) + "}";
                int k = i;
                while (k < lines.length && !lines[k].equals(end)) {
                    k++;
                }
                DUE.holds("rule 11: lines of " + lines[i].trim(), k - i < 60);
            }
        }
    }
}
