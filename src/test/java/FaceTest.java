import java.lang.reflect.Constructor;
import java.lang.reflect.Field;
import java.lang.reflect.Method;
import java.lang.reflect.Modifier;
import java.nio.file.Files;
import java.nio.file.Path;
import java.util.ArrayList;
import java.util.Arrays;
import java.util.List;
import java.util.Set;
import java.util.TreeSet;
import java.util.regex.Matcher;
import java.util.regex.Pattern;

/** The class has the document's face and nothing beside it, and keeps to what of LANGUAGE.md can be seen from outside. */
public final class FaceTest {
    private static final String[] FACE = {
        "void clear()", "int thing(int, int)", "int table(int, long, long)", "boolean wall(int, int, int)",
        "boolean set(int, int, int)", "boolean price(int, int, int)", "int look(int)", "int of(int, int)",
        "int does(int, int, int, int, int)", "int silent(int)", "int shown(int)", "int show(int, int, int)",
        "int letters(int)", "int letter(int, int, int, int)", "void begin()", "int run(int, int)", "int state(int)",
        "int ticks()", "int walls(int, int, int)", "boolean give(int)"};
    private static final Path SOURCE = Path.of("src/main/java/WhisperJudge.java");

    private static final Check check = new Check("FaceTest");

    public static void main(String[] args) throws Exception {
        face();
        for (Class<?> inner : WhisperJudge.class.getDeclaredClasses()) {
            innerClass(inner);
        }
        check.due("classes of the file, twelve at most", WhisperJudge.class.getDeclaredClasses().length < 12, true);
        source(Files.readString(SOURCE));
        check.end();
    }

    private static void face() throws Exception {
        Class<?> c = WhisperJudge.class;
        check.due("public and final", c.getModifiers() & (Modifier.PUBLIC | Modifier.FINAL), Modifier.PUBLIC | Modifier.FINAL);
        Set<String> open = new TreeSet<>();
        Set<String> publicNames = new TreeSet<>();
        for (Method m : c.getDeclaredMethods()) {
            if (Modifier.isPublic(m.getModifiers()) && !Modifier.isStatic(m.getModifiers())) {
                open.add(told(m));
                publicNames.add(m.getName());
            } else {
                check.due(m + " is private", Modifier.isPrivate(m.getModifiers()), true);
            }
        }
        check.due("the methods are " + open, open.equals(new TreeSet<>(Arrays.asList(FACE))), true);
        noneNamedSo(c, publicNames);
        for (Class<?> inner : c.getDeclaredClasses()) {
            noneNamedSo(inner, publicNames);
        }
        Constructor<?>[] made = c.getDeclaredConstructors();
        check.due("one constructor without arguments", made.length == 1 && made[0].getParameterCount() == 0, true);
        check.due("it is public", Modifier.isPublic(made[0].getModifiers()), true);
        for (Field f : c.getDeclaredFields()) {
            boolean isNone = f.getName().equals("NONE");
            check.due(f + " is private but for NONE", Modifier.isPrivate(f.getModifiers()), !isNone);
        }
        Field none = c.getField("NONE");
        check.due("NONE", Modifier.isStatic(none.getModifiers()) && Modifier.isFinal(none.getModifiers()) && none.getInt(null) == -1, true);
        fields(c);
    }

    private static String told(Method m) {
        List<String> types = new ArrayList<>();
        for (Class<?> type : m.getParameterTypes()) {
            types.add(type.getName());
        }
        return m.getReturnType().getName() + " " + m.getName() + "(" + String.join(", ", types) + ")";
    }

    private static void noneNamedSo(Class<?> c, Set<String> publicNames) {
        for (Method m : c.getDeclaredMethods()) {
            boolean ofTheFace = c == WhisperJudge.class && Modifier.isPublic(m.getModifiers());
            check.due(m + " bears no public one's name", ofTheFace || !publicNames.contains(m.getName()), true);
            check.due(m + " takes seven parameters at most", m.getParameterCount() <= 7, true);
        }
    }

    private static void innerClass(Class<?> c) {
        check.due(c + " is static", Modifier.isStatic(c.getModifiers()), true);
        check.due(c + " is not open", c.getModifiers() & (Modifier.PUBLIC | Modifier.PROTECTED), 0);
        fields(c);
    }

    private static void fields(Class<?> c) {
        int many = 0;
        for (Field f : c.getDeclaredFields()) {
            boolean isStatic = Modifier.isStatic(f.getModifiers());
            many += isStatic ? 0 : 1;
            check.due(f + " is no static state", !isStatic || Modifier.isFinal(f.getModifiers()), true);
        }
        check.due(c + " has some twenty fields at most", many <= 20, true);
    }

    private static void source(String text) {
        String code = text.replaceAll("(?s)/\\*.*?\\*/", "").replaceAll("//[^\n]*", "");
        String words = "throw|throws|try|catch|finally|synchronized|assert|volatile|transient|native|package|protected|"
            + "hashCode|toString|equals|Object|Exception|Exact|Random|System\\.(?!arraycopy)|Thread|Float|Double";
        Matcher word = Pattern.compile("\\b(" + words + ")").matcher(code);
        check.due("words outside the language", word.find() ? code.substring(word.start()).split("\n")[0].length() : 0, 0);
        check.due("lambdas and method references", code.contains("->") || code.contains("::"), false);
        check.due("static blocks", Pattern.compile("\\bstatic\\s*\\{").matcher(code).find(), false);
        for (String line : code.split("\n")) {
            boolean isImport = line.startsWith("import ");
            check.due(line, !isImport || line.equals("import java.util.Arrays;"), true);
            // One room for all calls: objects are made with the judge, in a field's own line or in its constructor.
            boolean inConstructor = line.matches(" {12}(things|pairs|whispers)\\[[kn]\\] = new .*");
            check.due(line, !line.matches(".*\\bnew\\b.*") || line.contains(" final ") || inConstructor, true);
        }
        check.due("signs 1 to 127", text.chars().allMatch(sign -> sign >= 1 && sign <= 127), true);
        shortMethods(code);
    }

    private static void shortMethods(String code) {
        String[] lines = code.split("\n", -1);
        for (int i = 0; i < lines.length; i++) {
            if (!lines[i].matches("( {4}| {8})[a-zA-Z].*\\) \\{") || lines[i].matches(" +(if|for|while|switch) .*")) {
                continue;
            }
            String indent = lines[i].replaceAll("\\S.*", "");
            int end = i;
            while (end < lines.length && !lines[end].equals(indent + "}")) {
                end++;
            }
            check.due(lines[i].trim() + " is short", end - i <= 60, true);
        }
    }
}
