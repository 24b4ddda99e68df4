import java.io.IOException;
import java.io.StringWriter;
import java.lang.reflect.Method;
import java.lang.reflect.Modifier;
import java.net.URL;
import java.net.URLClassLoader;
import java.nio.file.Files;
import java.nio.file.Path;
import java.util.ArrayList;
import java.util.List;
import java.util.Set;
import java.util.TreeSet;
import java.util.regex.Matcher;
import java.util.regex.Pattern;
import java.util.stream.Stream;
import javax.tools.JavaCompiler;
import javax.tools.StandardJavaFileManager;
import javax.tools.ToolProvider;

/**
 * What README.md shows of the class's use holds: its Java is compiled as it stands there, each
 * call is made, and its answer must be the one that stands behind it.
 */
public final class ReadmeTest {
    private static final Pattern BLOCK = Pattern.compile("(?s)```java\n(.*?)```");
    /** A call with its answer: a number, or the name of one of the constants. */
    private static final Pattern ANSWERED = Pattern.compile(
            "rows\\.(\\w+)(\\(.*?\\)); *// (-?\\d+|NONE|BAD|NO|FULL)(?![\\w.]).*");
    private static final Pattern TEST = Pattern.compile("`(\\w+Test)`");

    private static final Set<String> SHOWN = new TreeSet<>();
    private static int asked;
    private static int wrong;

    public static void main(String[] args) throws Exception {
        String page = Files.readString(Path.of("README.md"));
        String program = program(page);
        if (wrong == 0) {
            run(program);
        }
        everyMethodIsShown();
        everyTestIsNamed(page);
        System.out.println(asked + " answers of README.md, " + wrong + " not as due");
        if (wrong != 0 || asked == 0) {
            System.exit(1);
        }
    }

    private static void fault(String what) {
        wrong++;
        System.out.println(what);
    }

    /** The page's program calls it with each answer. */
    public static void due(String call, long got, long want) {
        asked++;
        if (got != want) {
            fault("README.md: " + call + " answered " + got + ", the page says " + want);
        }
    }

    // ---- the page's Java as one program

    private static String program(String page) {
        StringBuilder program = new StringBuilder("public final class ReadmeUse {\n");
        Matcher blocks = BLOCK.matcher(page);
        List<String> names = new ArrayList<>();
        while (blocks.find()) {
            String name = "block" + names.size();
            names.add(name);
            program.append("static void ").append(name).append("() {\n");
            for (String line : blocks.group(1).split("\n")) {
                program.append(statement(line)).append('\n');
            }
            program.append("}\n");
        }
        program.append("public static void all() {\n");
        for (String name : names) {
            program.append(name).append("();\n");
        }
        return program.append("}\n}\n").toString();
    }

    /** A call with an answer is asked for it; all else stays as it stands on the page. */
    private static String statement(String line) {
        Matcher answered = ANSWERED.matcher(line);
        if (answered.matches()) {
            String call = answered.group(1) + answered.group(2);
            String answer = answered.group(3);
            SHOWN.add(answered.group(1));
            String want = Character.isLetter(answer.charAt(0)) ? "SquaredRows." + answer
                    : answer + "L";
            String words = call.replace("\\", "\\\\").replace("\"", "\\\"");
            return "ReadmeTest.due(\"" + words + "\", rows." + call + ", " + want + ");";
        }
        if (line.startsWith("rows.")) {
            fault("README.md tells no answer: " + line);
        }
        return line;
    }

    private static void run(String program) throws Exception {
        Path folder = Files.createTempDirectory("readme");
        try {
            Path source = Files.writeString(folder.resolve("ReadmeUse.java"), program);
            if (compiles(source, folder)) {
                try (URLClassLoader loader = new URLClassLoader(
                        new URL[] {folder.toUri().toURL()}, ReadmeTest.class.getClassLoader())) {
                    loader.loadClass("ReadmeUse").getMethod("all").invoke(null);
                }
            }
        } finally {
            empty(folder);
        }
    }

    private static boolean compiles(Path source, Path folder) throws IOException {
        JavaCompiler compiler = ToolProvider.getSystemJavaCompiler();
        if (compiler == null) {
            fault("there is no compiler for README.md's Java");
            return false;
        }
        StringWriter said = new StringWriter();
        try (StandardJavaFileManager files = compiler.getStandardFileManager(null, null, null)) {
            List<String> options = List.of("-d", folder.toString(), "-cp",
                    System.getProperty("java.class.path"));
            boolean good = compiler.getTask(said, files, null, options, null,
                    files.getJavaFileObjects(source)).call();
            if (!good) {
                fault("README.md's Java does not compile: " + said);
            }
            return good;
        }
    }

    private static void empty(Path folder) throws IOException {
        try (Stream<Path> files = Files.list(folder)) {
            for (Path file : files.toList()) {
                Files.delete(file);
            }
        }
        Files.delete(folder);
    }

    // ---- what the page has to name

    private static void everyMethodIsShown() {
        for (Method method : SquaredRows.class.getDeclaredMethods()) {
            if (Modifier.isPublic(method.getModifiers()) && !SHOWN.contains(method.getName())) {
                fault("README.md does not show " + method.getName());
            }
        }
    }

    private static void everyTestIsNamed(String page) throws IOException {
        Set<String> named = new TreeSet<>();
        Matcher names = TEST.matcher(page);
        while (names.find()) {
            named.add(names.group(1));
        }
        Set<String> there = new TreeSet<>();
        try (Stream<Path> files = Files.list(Path.of("src/test/java"))) {
            for (Path file : files.toList()) {
                String name = file.getFileName().toString().replace(".java", "");
                if (name.endsWith("Test")) {
                    there.add(name);
                }
            }
        }
        if (!named.equals(there)) {
            fault("README.md names the tests " + named + ", there are " + there);
        }
    }
}
