import java.io.File;
import java.lang.reflect.Method;
import java.lang.reflect.Modifier;
import java.net.URL;
import java.net.URLClassLoader;
import java.nio.charset.StandardCharsets;
import java.nio.file.Files;
import java.nio.file.Path;
import java.util.regex.Matcher;
import java.util.regex.Pattern;
import javax.tools.ToolProvider;

/** README.md's examples are compiled and run as they stand, each call answering what is said behind it. */
public final class ReadmeTest {
    private static final Path README = Path.of("README.md"), TESTS = Path.of("src/test/java");
    private static final Pattern BLOCK = Pattern.compile("```java\n(.*?)```", Pattern.DOTALL);
    private static final Pattern ANSWERED = Pattern.compile("(\\w+\\.\\w+\\(.*\\)); *// (-?\\d+): .+");
    private static int wrong = 0;

    public static void main(String[] args) throws Exception {
        String readme = Files.readString(README, StandardCharsets.UTF_8);
        int answers = examplesAnswerAsSaid(readme);
        callsAreNamed(readme);
        testsAreNamed(readme);
        if (wrong != 0) {
            System.out.println(wrong + " faults in README.md");
            System.exit(1);
        }
        System.out.println(answers + " answers are as README.md says");
    }

    private static void fault(String what) {
        wrong++;
        System.out.println(what);
    }

    /** Called by the examples' own program. */
    public static void due(String call, long got, long want) {
        if (got != want) {
            fault("README.md: " + call + " answered " + got + ", said is " + want);
        }
    }

    private static int examplesAnswerAsSaid(String readme) throws Exception {
        StringBuilder program = new StringBuilder("public final class Examples { public static void run() {\n");
        int answers = 0;
        for (Matcher block = BLOCK.matcher(readme); block.find();) {
            for (String line : block.group(1).split("\n")) {
                Matcher answered = ANSWERED.matcher(line);
                if (answered.matches()) {
                    answers++;
                    String call = answered.group(1);
                    line = "ReadmeTest.due(\"" + call + "\", " + call + ", " + answered.group(2) + ");";
                } else if (line.contains("//")) {
                    fault("no answer is said behind: " + line);
                }
                program.append(line).append('\n');
            }
        }
        if (answers == 0) {
            fault("README.md has no example");
        }
        compileAndRun(program.append("} }\n").toString());
        return answers;
    }

    private static void compileAndRun(String program) throws Exception {
        Path folder = Files.createTempDirectory("readme");
        Path source = folder.resolve("Examples.java");
        try {
            Files.writeString(source, program, StandardCharsets.UTF_8);
            int result = ToolProvider.getSystemJavaCompiler().run(null, null, null, "-cp", System.getProperty("java.class.path"),
                "-d", folder.toString(), source.toString());
            if (result != 0) {
                fault("README.md's examples do not compile");
                return;
            }
            try (URLClassLoader loader = new URLClassLoader(new URL[] {folder.toUri().toURL()}, ReadmeTest.class.getClassLoader())) {
                loader.loadClass("Examples").getMethod("run").invoke(null);
            }
        } finally {
            for (File file : folder.toFile().listFiles()) {
                file.delete();
            }
            folder.toFile().delete();
        }
    }

    private static void callsAreNamed(String readme) {
        for (Method call : CountyTrick.class.getDeclaredMethods()) {
            if (Modifier.isPublic(call.getModifiers()) && !readme.contains("`" + call.getName() + "`")) {
                fault("README.md does not name " + call.getName());
            }
        }
    }

    private static void testsAreNamed(String readme) {
        for (File test : TESTS.toFile().listFiles()) {
            if (!readme.contains("`" + TESTS + "/" + test.getName() + "`")) {
                fault("README.md does not name " + test);
            }
        }
    }
}
