import java.io.ByteArrayOutputStream;
import java.io.File;
import java.io.IOException;
import java.lang.reflect.Method;
import java.lang.reflect.Modifier;
import java.net.URL;
import java.net.URLClassLoader;
import java.nio.charset.StandardCharsets;
import java.nio.file.Files;
import java.nio.file.Path;
import java.util.ArrayList;
import java.util.HashMap;
import java.util.List;
import java.util.Map;
import java.util.Set;
import java.util.TreeSet;
import java.util.regex.Matcher;
import java.util.regex.Pattern;
import java.util.stream.Collectors;
import java.util.stream.Stream;
import javax.tools.JavaCompiler;
import javax.tools.ToolProvider;

/**
 * README.md shows how the class is used: each of its java blocks is compiled as it stands there, and each call must
 * answer what stands behind it; its sh blocks are run, and must print what they say they do.
 */
public final class ReadmeTest {
    private static final Path README = Path.of("README.md");
    private static final Path TESTS = Path.of("src/test/java");
    private static final String NEW = "WhisperJudge judge = new WhisperJudge();";
    private static final Pattern CALL = Pattern.compile("judge\\.([a-z]+)\\(");
    private static final Pattern ANSWER = Pattern.compile("// (-?\\d+|NONE|true|false)(?=$|: )");
    private static final Pattern PRINTS = Pattern.compile("# prints (.*)");
    /** Fewer than this and the test has lost sight of what the page shows. */
    private static final int LEAST_ANSWERS = 60;

    private static final Check check = new Check("ReadmeTest");

    /** What stands between two fences, and the line of the page on which it begins. */
    private record Block(String language, int line, List<String> lines) {
        boolean isProgram() {
            return !lines.isEmpty() && lines.get(0).startsWith("public final class ");
        }
    }

    /** A call of the page: where it stands, and the answer that stands behind it. */
    private record Shown(String where, Object answer) {
    }

    private static final List<Shown> shown = new ArrayList<>();
    private static final Set<String> called = new TreeSet<>();

    public static void main(String[] args) throws Exception {
        List<String> page = Files.readAllLines(README);
        List<Block> blocks = blocksOf(page);
        // Beside what .ci/run builds, so that nothing is written outside the checkout.
        Path work = Files.createTempDirectory(Files.createDirectories(Path.of("build").toAbsolutePath()), "readme");
        try {
            calls(blocks, work);
            commands(blocks, work);
        } finally {
            remove(work);
        }
        eachCallIsShown();
        testsAreNamed(page);
        check.end();
    }

    private static List<Block> blocksOf(List<String> page) {
        List<Block> blocks = new ArrayList<>();
        Block open = null;
        for (int i = 0; i < page.size(); i++) {
            String line = page.get(i);
            if (!line.startsWith("```")) {
                if (open != null) {
                    open.lines().add(line);
                }
            } else if (open == null) {
                open = new Block(line.substring(3), i + 2, new ArrayList<>());
            } else {
                blocks.add(open);
                open = null;
            }
        }
        check.due("README.md's last block ends", open == null, true);
        return blocks;
    }

    // The java blocks that are runs of calls.

    private static void calls(List<Block> blocks, Path work) throws Exception {
        Map<String, Boolean> says = new HashMap<>();
        for (Method m : WhisperJudge.class.getDeclaredMethods()) {
            if (Modifier.isPublic(m.getModifiers())) {
                says.put(m.getName(), m.getReturnType() != void.class);
            }
        }
        StringBuilder code = new StringBuilder("public final class ReadmeCalls {\n");
        code.append("public static java.util.List<Object> answers() {\njava.util.List<Object> all = new java.util.ArrayList<>();\n");
        for (Block block : blocks) {
            if (block.language().equals("java") && !block.isProgram()) {
                check.due(at(block, 0) + "begins with a new object", block.lines().get(0).equals(NEW), true);
                code.append("{\n");
                for (int i = 0; i < block.lines().size(); i++) {
                    code.append(statement(at(block, i), block.lines().get(i), says));
                }
                code.append("}\n");
            }
        }
        compareAnswers(answersOf(code.append("return all;\n}\n}\n").toString(), work));
    }

    private static String at(Block block, int i) {
        return "README.md, line " + (block.line() + i) + ": ";
    }

    /** The line as it stands there; if it is a call that answers, what it answers is kept. */
    private static String statement(String where, String line, Map<String, Boolean> says) {
        Matcher call = CALL.matcher(line);
        if (!call.find()) {
            return line + "\n";
        }
        String name = call.group(1);
        called.add(name);
        check.due(where + "one call a line", call.find(), false);
        if (!says.getOrDefault(name, false)) {
            return line + "\n";
        }
        Matcher answer = ANSWER.matcher(line);
        boolean isTold = answer.find();
        check.due(where + "the answer stands behind the call", isTold, true);
        shown.add(new Shown(where + line.replaceAll(";.*", ""), isTold ? valueOf(answer.group(1)) : null));
        Matcher kept = Pattern.compile("^int ([a-z]+) = ").matcher(line);
        if (kept.find()) {
            return line + "\nall.add(" + kept.group(1) + ");\n";
        }
        return "all.add(" + line.replaceAll(";.*", "") + ");\n";
    }

    private static Object valueOf(String told) {
        if (told.equals("true") || told.equals("false")) {
            return told.equals("true");
        }
        return told.equals("NONE") ? (Object) WhisperJudge.NONE : (Object) Integer.valueOf(told);
    }

    private static List<?> answersOf(String code, Path work) throws Exception {
        JavaCompiler compiler = ToolProvider.getSystemJavaCompiler();
        check.due("a compiler is there", compiler != null, true);
        if (compiler == null) {
            return List.of();
        }
        Path file = Files.writeString(work.resolve("ReadmeCalls.java"), code);
        ByteArrayOutputStream told = new ByteArrayOutputStream();
        int result = compiler.run(null, told, told, "-cp", System.getProperty("java.class.path"), "-d", work.toString(), file.toString());
        check.due("README.md's calls compile: " + told, result, 0);
        if (result != 0) {
            return List.of();
        }
        try (URLClassLoader loader = new URLClassLoader(new URL[] {work.toUri().toURL()})) {
            return (List<?>) loader.loadClass("ReadmeCalls").getMethod("answers").invoke(null);
        }
    }

    private static void compareAnswers(List<?> answers) {
        check.due("calls of README.md that answer", answers.size(), shown.size());
        check.due("enough of them", shown.size() >= LEAST_ANSWERS, true);
        for (int i = 0; i < Math.min(answers.size(), shown.size()); i++) {
            Object want = shown.get(i).answer();
            check.due(shown.get(i).where() + " answers " + answers.get(i) + ", " + want + " stands there", answers.get(i).equals(want), true);
        }
    }

    private static void eachCallIsShown() {
        Set<String> face = new TreeSet<>();
        for (Method m : WhisperJudge.class.getDeclaredMethods()) {
            if (Modifier.isPublic(m.getModifiers())) {
                face.add(m.getName());
            }
        }
        check.due("README.md shows " + called + ", the face has " + face, called.equals(face), true);
    }

    // The programs, and the sh blocks that compile and run them.

    private static void commands(List<Block> blocks, Path work) throws Exception {
        Files.createSymbolicLink(work.resolve("src"), Path.of("src").toAbsolutePath());
        int programs = 0;
        int run = 0;
        for (Block block : blocks) {
            if (block.language().equals("java") && block.isProgram()) {
                String name = block.lines().get(0).split(" ")[3];
                Files.write(work.resolve(name + ".java"), block.lines());
                programs++;
            } else if (block.language().equals("sh")) {
                run += command(block, work) ? 1 : 0;
            }
        }
        check.due("README.md shows a program", programs > 0, true);
        check.due("and how programs and tests are run", run >= 2, true);
    }

    /** Whether the block was run; .ci/run is not, as it runs this test. */
    private static boolean command(Block block, Path work) throws Exception {
        List<String> prints = new ArrayList<>();
        for (String line : block.lines()) {
            if (line.startsWith(".ci/run")) {
                check.due(at(block, 0) + line + " can be run", new File(line).canExecute(), true);
                return false;
            }
            Matcher told = PRINTS.matcher(line);
            if (told.find()) {
                prints.add(told.group(1));
            }
        }
        Path out = work.resolve("out.txt");
        Process process = new ProcessBuilder("bash", "-e", "-c", String.join("\n", block.lines())).directory(work.toFile())
            .redirectErrorStream(true).redirectOutput(out.toFile()).start();
        int result = process.waitFor();
        String text = Files.readString(out, StandardCharsets.UTF_8).strip();
        check.due(at(block, 0) + "ends well; it printed " + text, result, 0);
        if (!prints.isEmpty()) {
            check.due(at(block, 0) + "prints " + text, text.equals(String.join("\n", prints)), true);
        }
        return true;
    }

    // The list of tests.

    private static void testsAreNamed(List<String> page) throws IOException {
        Set<String> named = new TreeSet<>();
        Pattern item = Pattern.compile("^- `([A-Za-z]+Test)`: ");
        for (String line : page) {
            Matcher m = item.matcher(line);
            if (m.find()) {
                named.add(m.group(1));
            }
        }
        try (Stream<Path> files = Files.list(TESTS)) {
            Set<String> there = files.map(file -> file.getFileName().toString()).filter(name -> name.endsWith("Test.java"))
                .map(name -> name.substring(0, name.length() - 5)).collect(Collectors.toCollection(TreeSet::new));
            check.due("README.md names " + named + ", there are " + there, named.equals(there), true);
        }
    }

    private static void remove(Path work) throws IOException {
        Files.deleteIfExists(work.resolve("src"));
        List<Path> all;
        try (Stream<Path> files = Files.walk(work)) {
            all = files.collect(Collectors.toList());
        }
        for (int i = all.size() - 1; i >= 0; i--) {
            Files.delete(all.get(i));
        }
    }
}
