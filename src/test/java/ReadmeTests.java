import java.io.IOException;
import java.lang.reflect.InvocationTargetException;
import java.lang.reflect.Method;
import java.net.URL;
import java.net.URLClassLoader;
import java.nio.file.DirectoryStream;
import java.nio.file.Files;
import java.nio.file.Path;
import java.util.ArrayList;
import java.util.List;
import java.util.regex.Matcher;
import java.util.regex.Pattern;
import java.util.stream.Stream;
import javax.tools.JavaCompiler;
import javax.tools.ToolProvider;

/**
 * README.md is there; its examples compile together with the class and answer as their comments say;
 * it names every call of the document's face and every test of the project.
 */
public final class ReadmeTests {
    private static final Path README = Path.of("README.md");
    private static final Path DOCUMENT = Path.of("../shared/DOC.md");
    private static final Path SOURCE = Path.of("src/main/java/PrintedByFrost.java");
    private static final Path TESTS = Path.of("src/test/java");
    private static final int LEAST_EXAMPLES = 7;
    /** A line with a call of the object: what it's kept in, the call, the answer that is due. */
    private static final Pattern CALL =
            Pattern.compile("(?:(?:int|long) (\\w+) = )?(street\\.\\w+\\(.*\\)); +// (-?\\d+)(?:: .*)?");
    private static int wrong = 0;
    private static int calls = 0;

    private static void fail(String what) {
        wrong++;
        System.out.println(what);
    }

    public static void main(String[] args) throws Exception {
        if (!Files.isRegularFile(README)) {
            System.out.println("there is no README.md");
            System.exit(1);
        }
        String readme = Files.readString(README);
        examplesAnswer(readme);
        namesEveryCall(readme);
        namesEveryTest(readme);
        System.out.println(calls + " calls of README.md, " + wrong + " faults");
        if (wrong != 0) {
            System.exit(1);
        }
    }

    // ---- the examples

    private static void examplesAnswer(String readme) throws Exception {
        List<String> examples = new ArrayList<>();
        Matcher blocks = Pattern.compile("(?ms)^```java\n(.*?)^```$").matcher(readme);
        while (blocks.find()) {
            examples.add(blocks.group(1));
        }
        if (examples.size() < LEAST_EXAMPLES) {
            fail("README.md has " + examples.size() + " examples");
        }
        Path folder = Files.createTempDirectory("readme");
        try {
            Path program = folder.resolve("ReadmeExamples.java");
            Files.writeString(program, programOf(examples));
            if (compiles(folder, program)) {
                run(folder);
            }
        } finally {
            delete(folder);
        }
    }

    private static boolean compiles(Path folder, Path program) {
        JavaCompiler compiler = ToolProvider.getSystemJavaCompiler();
        if (compiler == null) {
            fail("there is no compiler");
            return false;
        }
        String[] with = {"-encoding", "UTF-8", "-d", folder.toString(), SOURCE.toString(), program.toString()};
        if (compiler.run(null, null, null, with) != 0) {
            fail("the examples of README.md don't compile together with the class");
            return false;
        }
        return true;
    }

    private static void run(Path folder) throws Exception {
        URL[] places = {folder.toUri().toURL()};
        try (URLClassLoader loader = new URLClassLoader(places, ClassLoader.getPlatformClassLoader())) {
            Method answers = loader.loadClass("ReadmeExamples").getMethod("faults");
            for (Object fault : (List<?>) answers.invoke(null)) {
                fail((String) fault);
            }
        } catch (InvocationTargetException e) {
            fail("an example of README.md throws " + e.getCause());
        }
    }

    /** Each example as it stands, and once more with each answer held against its comment. */
    private static String programOf(List<String> examples) {
        StringBuilder text = new StringBuilder("public final class ReadmeExamples {\n"
                + "static final java.util.List<String> FAULTS = new java.util.ArrayList<>();\n"
                + "static void due(String call, long got, long due) {\n"
                + "if (got != due) {\n"
                + "FAULTS.add(\"README.md: \" + call + \" answered \" + got + \", due is \" + due);\n"
                + "}\n"
                + "}\n");
        StringBuilder all = new StringBuilder();
        for (int i = 0; i < examples.size(); i++) {
            text.append("static void asItStands").append(i).append("() {\n").append(examples.get(i)).append("}\n");
            text.append("static void looked").append(i).append("() {\n").append(looked(examples.get(i))).append("}\n");
            all.append("asItStands").append(i).append("(); looked").append(i).append("();\n");
        }
        return text.append("public static java.util.List<String> faults() {\n").append(all)
                .append("return FAULTS;\n}\n}\n").toString();
    }

    private static String looked(String example) {
        StringBuilder text = new StringBuilder();
        for (String line : example.split("\n")) {
            Matcher call = CALL.matcher(line);
            if (!call.matches()) {
                text.append(line).append('\n');
                if (line.startsWith("street.") || line.matches("(int|long) \\w+ = street\\..*")) {
                    fail("README.md doesn't say what this answers: " + line);
                }
                continue;
            }
            calls++;
            String kept = call.group(1);
            if (kept != null) {
                text.append("int ").append(kept).append(" = ").append(call.group(2)).append(";\n");
            }
            text.append("due(\"").append(call.group(2).replace("\"", "\\\"")).append("\", ")
                    .append(kept != null ? kept : call.group(2)).append(", ").append(call.group(3)).append("L);\n");
        }
        return text.toString();
    }

    private static void delete(Path folder) throws IOException {
        try (DirectoryStream<Path> files = Files.newDirectoryStream(folder)) {
            for (Path file : files) {
                Files.delete(file);
            }
        }
        Files.delete(folder);
    }

    // ---- what it names

    /** Each call as the document's face has it, without its types. */
    private static void namesEveryCall(String readme) throws IOException {
        Matcher face = Pattern.compile("(?m)^ {4}public (?:int|long) (\\w+)\\((.*)\\);$")
                .matcher(Files.readString(DOCUMENT));
        int found = 0;
        while (face.find()) {
            found++;
            String call = "`" + face.group(1) + "(" + face.group(2).replaceAll("(int|long) ", "") + ")`";
            if (!readme.contains(call)) {
                fail("README.md doesn't name " + call);
            }
        }
        if (found != 48) {
            fail("the document's face has " + found + " methods");
        }
    }

    private static void namesEveryTest(String readme) throws IOException {
        try (Stream<Path> tests = Files.list(TESTS)) {
            for (Path test : tests.sorted().toList()) {
                if (!readme.contains("`" + TESTS + "/" + test.getFileName() + "`")) {
                    fail("README.md doesn't name " + test);
                }
            }
        }
        if (!readme.contains("\n.ci/run\n")) {
            fail("README.md doesn't say how to run the tests");
        }
    }
}
