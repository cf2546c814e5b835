import java.io.IOException;
import java.lang.reflect.Method;
import java.lang.reflect.Modifier;
import java.net.URL;
import java.net.URLClassLoader;
import java.nio.file.Files;
import java.nio.file.Path;
import java.util.ArrayList;
import java.util.List;
import java.util.regex.Matcher;
import java.util.regex.Pattern;
import java.util.spi.ToolProvider;
import java.util.stream.Stream;

/**
 * What README.md shows as code compiles, and answers what README.md says it answers: each block that begins with
 * "static" becomes a member of a class, each other one the body of a method there, and each call with a comment
 * behind it a check that the call answers (or throws) what the comment says before its first colon.
 */
public final class ReadmeTest {
    private static final Path README = Path.of("README.md");
    private static final Path MADE = Path.of("build", "readme");
    private static final Pattern BLOCK = Pattern.compile("```(\\w+)\n(.*?)```", Pattern.DOTALL);
    private static final Pattern ANSWER = Pattern.compile("(x\\.\\w+\\(.*\\)); +// ([^:]+)(:.*)?");
    private static final Pattern JAVA_FILE = Pattern.compile("[\\w./]+\\.java");

    private static final StringBuilder members = new StringBuilder();
    private static final StringBuilder calls = new StringBuilder();
    private static int blocks = 0;

    public static void main(String[] args) throws Exception {
        Checks.test = "README.md";
        String readme = Files.readString(README);
        for (Matcher block = BLOCK.matcher(readme); block.find();) {
            if (block.group(1).equals("java")) {
                addBlock(block.group(2));
            } else {
                filesDue(block.group(2));
            }
        }
        Checks.due("README.md shows code", blocks > 0, true);
        namesDue(readme);
        testsDue(readme);
        compile();
        runMade();
        Checks.end();
    }

    private static void addBlock(String code) {
        if (code.startsWith("static ")) {
            members.append(code);
            return;
        }
        blocks++;
        calls.append("block").append(blocks).append("();\n");
        members.append("static void block").append(blocks).append("() {\n");
        members.append("Checks.test = \"README.md, block ").append(blocks).append("\";\n");
        for (String line : code.split("\n")) {
            members.append(checked(line)).append('\n');
        }
        members.append("}\n");
    }

    private static String checked(String line) {
        Matcher answer = ANSWER.matcher(line);
        if (!answer.matches()) {
            Checks.due("\"" + line + "\" has no answer that can be checked", line.matches("x\\..*|.*//.*"), false);
            return line;
        }
        String call = answer.group(1);
        String want = answer.group(2).trim();
        String what = "\"" + call.replace("\"", "\\\"") + "\", ";
        if (want.startsWith("throws ")) {
            return "Checks.throwsDue(" + what + want.substring(7) + ".class, () -> " + call + ");";
        }
        return "Checks.due(" + what + call + ", " + want.replace("NONE", "FaceLattice.NONE") + ");";
    }

    private static void compile() throws IOException {
        Files.createDirectories(MADE);
        Path file = MADE.resolve("ReadmeCode.java");
        Files.writeString(file, "import java.util.NoSuchElementException;\npublic final class ReadmeCode {\n" + members
                + "public static void main(String[] args) {\n" + calls + "Checks.end();\n}\n}\n");
        int code = ToolProvider.findFirst("javac").orElseThrow().run(System.out, System.err,
                "-d", MADE.toString(), "-cp", System.getProperty("java.class.path"), file.toString());
        Checks.due("the code of README.md compiles", code, 0);
    }

    /** One loader for all, as Checks is package-visible: it must be of the same run-time package. */
    private static void runMade() throws Exception {
        List<URL> places = new ArrayList<>(List.of(MADE.toUri().toURL()));
        for (String place : System.getProperty("java.class.path").split(System.getProperty("path.separator"))) {
            places.add(Path.of(place).toUri().toURL());
        }
        ClassLoader above = ClassLoader.getPlatformClassLoader();
        try (URLClassLoader loader = new URLClassLoader(places.toArray(new URL[0]), above)) {
            loader.loadClass("ReadmeCode").getMethod("main", String[].class).invoke(null, (Object) new String[0]);
        } catch (ClassNotFoundException e) {
            Checks.fail("the code of README.md cannot be run");
        }
    }

    private static void filesDue(String commands) {
        for (Matcher file = JAVA_FILE.matcher(commands); file.find();) {
            Checks.due(file.group() + " is there", Files.exists(Path.of(file.group())), true);
        }
    }

    private static void namesDue(String readme) {
        for (Method method : FaceLattice.class.getDeclaredMethods()) {
            if (Modifier.isPublic(method.getModifiers())) {
                Checks.due(method.getName() + " is named", readme.contains("`" + method.getName() + "`"), true);
            }
        }
    }

    private static void testsDue(String readme) throws IOException {
        try (Stream<Path> tests = Files.list(Path.of("src", "test", "java"))) {
            for (Path test : tests.toList()) {
                String name = test.getFileName().toString().replace(".java", "");
                Checks.due(name + " is named", readme.contains("`" + name + "`"), true);
            }
        }
    }
}
