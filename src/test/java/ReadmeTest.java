import java.io.IOException;
import java.io.StringWriter;
import java.lang.reflect.Method;
import java.lang.reflect.Modifier;
import java.net.URL;
import java.net.URLClassLoader;
import java.nio.file.Files;
import java.nio.file.Path;
import java.util.ArrayList;
import java.util.List;
import java.util.Set;
import java.util.TreeSet;
import java.util.regex.Matcher;
import java.util.regex.Pattern;
import java.util.stream.Stream;
import javax.tools.JavaCompiler;
import javax.tools.ToolProvider;

/** What README.md says is so: its examples answer what stands behind them, its table is the face, its tests are there. */
public final class ReadmeTest {
    private static final Path README = Path.of("README.md");
    private static final Path TESTS = Path.of("src/test/java");
    private static int wrong = 0;
    private static int looked = 0;

    private static void due(boolean so, String what) {
        looked++;
        if (!so) {
            wrong++;
            System.out.println("README.md: " + what);
        }
    }

    /** Called by the examples, once compiled. */
    public static void answer(String call, Object got, String want) {
        due(String.valueOf(got).equals(want), call + " answered " + got + ", the page says " + want);
    }

    /** What stands between fences that open with this language; a fence closes what is open, so couples are looked for. */
    private static List<String> blocks(String page, String language) {
        List<String> found = new ArrayList<>();
        Matcher m = Pattern.compile("^```(\\w*)\n(.*?)^```$", Pattern.DOTALL | Pattern.MULTILINE).matcher(page);
        while (m.find()) {
            if (m.group(1).equals(language)) found.add(m.group(2));
        }
        return found;
    }

    /** A line with an answer behind it becomes a question; one without stays as it is. */
    private static String asked(String line) {
        Matcher m = Pattern.compile("^((?:x\\.|tell\\().*\\));\\s*// (-?\\d+|true|false)\\b.*$").matcher(line);
        if (!m.matches()) return line + "\n";
        String call = m.group(1);
        return "ReadmeTest.answer(\"" + call.replace("\"", "\\\"") + "\", " + call + ", \"" + m.group(2) + "\");\n";
    }

    private static String example(String page) {
        StringBuilder s = new StringBuilder("public final class Example {\n");
        StringBuilder main = new StringBuilder("public static void run() {\n");
        for (String block : blocks(page, "java")) {
            if (block.startsWith("static ")) {
                s.append(block);
                continue;
            }
            main.append("{\n");
            for (String line : block.split("\n")) {
                String asked = asked(line);
                due(!asked.startsWith("x.") && !asked.startsWith("tell("), "no answer stands behind " + line);
                main.append(asked);
            }
            main.append("}\n");
        }
        return s.append(main).append("}\n}\n").toString();
    }

    private static void examples(String page, Path room) throws Exception {
        Path source = room.resolve("Example.java");
        Files.writeString(source, example(page));
        JavaCompiler compiler = ToolProvider.getSystemJavaCompiler();
        due(compiler != null, "there is no compiler beside this java");
        if (compiler == null) return;
        StringWriter said = new StringWriter();
        boolean compiled = compiler.getTask(said, null, null,
            List.of("-proc:none", "-d", room.toString(), "-cp", System.getProperty("java.class.path")), null,
            compiler.getStandardFileManager(null, null, null).getJavaFileObjects(source.toFile())).call();
        due(compiled, "an example does not compile: " + said);
        if (!compiled) return;
        int before = looked;
        try (URLClassLoader loader = new URLClassLoader(new URL[] {room.toUri().toURL()}, ReadmeTest.class.getClassLoader())) {
            loader.loadClass("Example").getMethod("run").invoke(null);
        }
        due(looked - before >= 20, "only " + (looked - before) + " answers stand in the examples");
    }

    /** The calls of the table with how many numbers they take, as in "of 2". */
    private static void table(String page) {
        Set<String> told = new TreeSet<>();
        for (String line : page.split("\n")) {
            if (!line.startsWith("| `")) continue;
            Matcher m = Pattern.compile("`(\\w+)\\(([^)]*)\\)`").matcher(line.split(" \\| ")[0]);
            while (m.find()) told.add(m.group(1) + " " + (m.group(2).isEmpty() ? 0 : m.group(2).split(",").length));
        }
        Set<String> face = new TreeSet<>();
        for (Method m : LetHorizon.class.getDeclaredMethods()) {
            if (Modifier.isPublic(m.getModifiers())) face.add(m.getName() + " " + m.getParameterCount());
        }
        due(told.equals(face), "the table has " + told + ", the face is " + face);
    }

    private static void refusals() {
        LetHorizon x = new LetHorizon();
        answer("of(10, 0)", x.of(10, 0), "-2");
        answer("goes(0, 0)", x.goes(0, 0), "-100000");
        answer("lifted(3)", x.lifted(3), "-100");
        answer("look(15)", x.look(15), "-100000");
        answer("NONE", LetHorizon.NONE, "-1");
    }

    private static void tests(String page) throws IOException {
        Set<String> told = new TreeSet<>();
        Matcher m = Pattern.compile("^- `(\\w+)[^`]*`", Pattern.MULTILINE).matcher(page);
        while (m.find()) told.add(m.group(1) + ".java");
        Set<String> there = new TreeSet<>();
        try (Stream<Path> files = Files.list(TESTS)) {
            files.forEach(f -> there.add(f.getFileName().toString()));
        }
        due(told.equals(there), "it tells of the tests " + told + ", there are " + there);
        due(Files.isExecutable(Path.of(".ci/run")), ".ci/run can't be run");
        for (String path : new String[] {"../shared/DOC.md", "../shared/LANGUAGE.md", "NOTES.md", "src/main/java/LetHorizon.java"}) {
            due(page.contains("`" + path + "`") && Files.isReadable(Path.of(path)), path + " is not there, or not told of");
        }
    }

    /** The command for one test by hand, as it stands on the page, but into a room of its own. */
    private static void byHand(String page, Path room) throws Exception {
        List<String> commands = blocks(page, "");
        due(commands.size() == 1, commands.size() + " commands stand there");
        for (String command : commands) {
            String here = command.replace("-d out ", "-d " + room + " ").replace("-cp out ", "-cp " + room + " ");
            due(!here.equals(command), "the command's room was not found: " + command);
            Process p = new ProcessBuilder("bash", "-c", here).redirectErrorStream(true).start();
            String said = new String(p.getInputStream().readAllBytes());
            due(p.waitFor() == 0, "the command fails: " + command + said);
        }
    }

    private static void removeAll(Path room) throws IOException {
        List<Path> all = new ArrayList<>();
        try (Stream<Path> files = Files.walk(room)) {
            files.forEach(f -> all.add(0, f));
        }
        for (Path f : all) Files.delete(f);
    }

    public static void main(String[] args) throws Exception {
        String page = Files.readString(README);
        Path room = Files.createTempDirectory("readme");
        try {
            examples(page, room);
            byHand(page, room);
        } finally {
            removeAll(room);
        }
        table(page);
        refusals();
        tests(page);
        System.out.println(looked + " statements looked at, " + wrong + " not so");
        if (wrong != 0) System.exit(1);
    }
}
