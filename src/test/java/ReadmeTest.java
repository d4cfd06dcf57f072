import java.io.ByteArrayOutputStream;
import java.nio.charset.StandardCharsets;
import java.nio.file.Files;
import java.nio.file.Path;
import java.util.Comparator;
import java.util.List;
import java.util.regex.Matcher;
import java.util.regex.Pattern;
import java.util.stream.Stream;
import javax.tools.ToolProvider;

/** The example of README.md, compiled and run by the commands that stand there, prints what stands there. */
final class ReadmeTest {
    public static void main(String[] args) throws Exception {
        String readme = Files.readString(Path.of("README.md"), StandardCharsets.UTF_8);
        Path out = Files.createTempDirectory("readme");
        try {
            Path example = out.resolve("Example.java");
            Files.writeString(example, block(readme, "java"));
            String command = "javac -d out src/main/java/NutsUp.java Example.java";
            Check.due("README.md tells " + command, readme.contains(command + "\njava -cp out Example\n") ? 1 : 0, 1);
            int failed = ToolProvider.getSystemJavaCompiler().run(null, null, null, "-d", out.toString(),
                "src/main/java/NutsUp.java", example.toString());
            Check.due("javac", failed, 0);
            String printed = failed == 0 ? printedBy(out) : "";
            if (!printed.equals(block(readme, "text"))) {
                Check.due("the example, which printed\n" + printed, 0, 1);
            }
        } finally {
            remove(out);
        }
        eachTestIsNamed(readme);
        Check.end();
    }

    private static String block(String readme, String kind) {
        Matcher found = Pattern.compile("(?s)```" + kind + "\n(.*?)```").matcher(readme);
        return found.find() ? found.group(1) : "";
    }

    private static String printedBy(Path out) throws Exception {
        String java = Path.of(System.getProperty("java.home"), "bin", "java").toString();
        Process run = new ProcessBuilder(List.of(java, "-cp", out.toString(), "Example")).redirectErrorStream(true).start();
        ByteArrayOutputStream printed = new ByteArrayOutputStream();
        run.getInputStream().transferTo(printed);
        Check.due("exit code of the example", run.waitFor(), 0);
        return printed.toString(StandardCharsets.UTF_8).replace("\r", "");
    }

    /** But for those of the promises, which are named as P01 .. P41, of each of which there is one. */
    private static void eachTestIsNamed(String readme) throws Exception {
        int promises = 0;
        try (Stream<Path> tests = Files.list(Path.of("src/test/java"))) {
            for (Path test : tests.filter(Files::isRegularFile).toList()) {
                String name = test.getFileName().toString().replace(".java", "");
                if (name.matches("P\\d\\d\\w+Test")) {
                    promises++;
                } else {
                    Check.due("README.md names " + name, readme.contains("`" + name + "`") ? 1 : 0, 1);
                }
            }
        }
        Check.due("tests of promises", promises, 41);
    }

    private static void remove(Path folder) throws Exception {
        try (Stream<Path> within = Files.walk(folder)) {
            for (Path each : within.sorted(Comparator.reverseOrder()).toList()) {
                Files.delete(each);
            }
        }
    }
}
