import java.lang.reflect.Method;
import java.lang.reflect.Modifier;
import java.net.URL;
import java.net.URLClassLoader;
import java.nio.file.DirectoryStream;
import java.nio.file.Files;
import java.nio.file.Path;
import java.util.ArrayList;
import java.util.List;
import java.util.TreeSet;
import java.util.regex.Matcher;
import java.util.regex.Pattern;
import javax.tools.JavaCompiler;
import javax.tools.ToolProvider;

/** What README.md shows compiles and answers as it says there, and what it tells of names holds. */
public final class ReadmeTest {
    private static final Due DUE = new Due("ReadmeTest");

    private static final Path HOME = Path.of(System.getProperty("clothmaker.home", "."));
    private static final Path README = HOME.resolve("README.md");

    /** The class that is written from what is shown. */
    private static final String MADE = "ReadmeUse";
    private static final String FIRST = "ClothMaker maker = new ClothMaker();";
    private static final Pattern CALL = Pattern.compile("(?:int (\\w+) = )?(maker\\.(\\w+)\\(.*\\));"
            + "\\s+// (0x[0-9A-Fa-f]+|-?\\d+|[A-Z]+)(?:: .*)?");
    private static final Pattern CONSTANT = Pattern.compile("\\| `([A-Z]+)` \\| (-\\d) \\|.*");
    private static final Pattern CHANGES = Pattern.compile("\\| (`[a-z]+`.*) \\| (.*) \\|");
    private static final int MOST_CALLS = 512;

    /** One call of each kind that changes what Stage.LAID has made. */
    private static final String[] CHANGING = {"input()", "keeper(true)", "gate(0, 0, 2)",
        "source(0, 1)", "out(0)", "cloth(3, 2, 2, 1)", "broken(4, true)", "set()", "swap(0, 4)",
        "smooth(1, 1)", "move(0, 3)"};
    /** What can be taken away, and a call that misses it then. */
    private static final String[][] PARTS = {{"TABLES", "table(4, 0)"}, {"places", "tile(0)"},
        {"ways", "longest()"}, {"FRAMES", "check()"}, {"runs", "told(0)"}};

    public static void main(String[] args) throws Exception {
        List<String> lines = Files.readAllLines(README);
        List<Shown> all = shown(lines);
        DUE.holds("README.md shows use", !all.isEmpty());
        eachSaysItsAnswer(all);
        if (!DUE.hasWrong()) {
            answersAsSaid(all);
        }
        eachCallIsShown(all);
        constants(lines);
        takenAway(lines);
        names(String.join("\n", lines));
        DUE.end();
    }

    /** One stretch of Java in README.md, and the number of its first line there. */
    private record Shown(int first, List<String> lines) {
        List<Matcher> calls() {
            List<Matcher> calls = new ArrayList<>();
            for (String line : lines) {
                Matcher call = CALL.matcher(line);
                if (call.matches()) {
                    calls.add(call);
                }
            }
            return calls;
        }
    }

    private static List<Shown> shown(List<String> lines) {
        List<Shown> all = new ArrayList<>();
        boolean inside = false;
        for (int k = 0; k < lines.size(); k++) {
            String line = lines.get(k);
            if (line.startsWith("```")) {
                inside = line.equals("```java");
                if (inside) {
                    all.add(new Shown(k + 2, new ArrayList<>()));
                }
            } else if (inside) {
                all.get(all.size() - 1).lines().add(line);
            }
        }
        return all;
    }

    private static void eachSaysItsAnswer(List<Shown> all) {
        for (Shown one : all) {
            for (int k = 0; k < one.lines().size(); k++) {
                String line = one.lines().get(k);
                boolean plain = line.isEmpty() || line.startsWith("//") || line.equals(FIRST);
                DUE.holds("line " + (one.first() + k) + " says what it answers: " + line,
                        plain || CALL.matcher(line).matches());
            }
            DUE.holds("an object at line " + one.first(), one.lines().contains(FIRST));
            DUE.holds("calls from line " + one.first(), one.calls().size() <= MOST_CALLS);
        }
    }

    private static void answersAsSaid(List<Shown> all) throws Exception {
        JavaCompiler javac = ToolProvider.getSystemJavaCompiler();
        DUE.holds("there is a compiler", javac != null);
        if (javac == null) {
            return;
        }
        Path made = Files.createTempDirectory("readme");
        try {
            Path file = made.resolve(MADE + ".java");
            Files.writeString(file, sourceOf(all));
            int compiled = javac.run(null, null, null, "-Xlint:all", "-Werror", "-d",
                    made.toString(), "-cp", System.getProperty("java.class.path"), file.toString());
            DUE.same("javac of what README.md shows", compiled, 0);
            if (compiled == 0) {
                runAll(all, made);
            }
        } finally {
            removeAll(made);
        }
    }

    /** Each stretch stands there as it is shown, and once more with its answers gathered. */
    private static String sourceOf(List<Shown> all) {
        StringBuilder text = new StringBuilder("public final class " + MADE + " {\n");
        for (Shown one : all) {
            text.append("public static void shown").append(one.first()).append("() {\n");
            text.append(String.join("\n", one.lines())).append("\n}\n");
            text.append("public static void asked").append(one.first());
            text.append("(java.util.List<Integer> answers) {\n").append(FIRST).append("\n");
            for (Matcher call : one.calls()) {
                String name = call.group(1);
                if (name != null) {
                    text.append("int ").append(name).append(" = ").append(call.group(2));
                    text.append(";\n");
                }
                text.append("answers.add(").append(name != null ? name : call.group(2));
                text.append(");\n");
            }
            text.append("}\n");
        }
        return text.append("}\n").toString();
    }

    private static void runAll(List<Shown> all, Path made) throws Exception {
        try (URLClassLoader loader = new URLClassLoader(new URL[] {made.toUri().toURL()})) {
            Class<?> use = loader.loadClass(MADE);
            for (Shown one : all) {
                use.getMethod("shown" + one.first()).invoke(null);
                List<Integer> answers = new ArrayList<>();
                use.getMethod("asked" + one.first(), List.class).invoke(null, answers);
                List<Matcher> calls = one.calls();
                DUE.same("answers from line " + one.first(), answers.size(), calls.size());
                for (int k = 0; k < calls.size(); k++) {
                    String call = "from line " + one.first() + ": " + calls.get(k).group();
                    DUE.same(call, answers.get(k), said(calls.get(k).group(4)));
                }
            }
        }
    }

    private static int said(String answer) throws Exception {
        return Character.isUpperCase(answer.charAt(0))
                ? ClothMaker.class.getField(answer).getInt(null) : Integer.decode(answer);
    }

    private static void removeAll(Path directory) throws Exception {
        try (DirectoryStream<Path> files = Files.newDirectoryStream(directory)) {
            for (Path file : files) {
                Files.delete(file);
            }
        }
        Files.delete(directory);
    }

    private static void eachCallIsShown(List<Shown> all) {
        TreeSet<String> names = new TreeSet<>();
        for (Shown one : all) {
            for (Matcher call : one.calls()) {
                names.add(call.group(3));
            }
        }
        for (Method method : ClothMaker.class.getDeclaredMethods()) {
            DUE.holds(method.getName() + "() is shown", names.contains(method.getName())
                    || !Modifier.isPublic(method.getModifiers()));
        }
    }

    private static void constants(List<String> lines) throws Exception {
        int rows = 0;
        for (String line : lines) {
            Matcher row = CONSTANT.matcher(line);
            if (row.matches()) {
                rows++;
                DUE.same(row.group(1), said(row.group(1)), Integer.parseInt(row.group(2)));
            }
        }
        DUE.same("refusals in the table", rows, ClothMaker.MISSING - ClothMaker.FULL + 1);
    }

    private static void takenAway(List<String> lines) {
        String told = "";
        for (String line : lines) {
            Matcher row = CHANGES.matcher(line);
            if (row.matches()) {
                for (String call : CHANGING) {
                    if (row.group(1).contains("`" + call.substring(0, call.indexOf('(')) + "`")) {
                        told += " " + call;
                        takesAway(call, row.group(2));
                    }
                }
            }
        }
        DUE.holds("each change once: " + told, told.trim().equals(String.join(" ", CHANGING)));
    }

    private static void takesAway(String change, String what) {
        for (String[] part : PARTS) {
            ClothMaker x = Stage.LAID.make();
            DUE.holds(change + " is done", Calls.ask(x, change) >= 0);
            boolean gone = Calls.ask(x, part[1]) == ClothMaker.MISSING;
            DUE.holds(change + " and " + part[0], gone == what.contains(part[0]));
        }
    }

    private static void names(String text) throws Exception {
        DUE.holds("how many calls", text.contains("at most " + MOST_CALLS + " calls"));
        DUE.holds(".ci/run can be run", text.contains("```sh\n.ci/run\n```")
                && Files.isExecutable(HOME.resolve(".ci/run")));
        try (DirectoryStream<Path> files =
                Files.newDirectoryStream(HOME.resolve("src/test/java"), "*.java")) {
            for (Path file : files) {
                String name = file.getFileName().toString().replace(".java", "");
                DUE.holds(name + " is named", text.contains("`" + name + "`"));
            }
        }
    }
}
