import java.io.IOException;
import java.lang.reflect.Method;
import java.lang.reflect.Modifier;
import java.nio.file.DirectoryStream;
import java.nio.file.Files;
import java.nio.file.Path;

/** README.md holds: its program prints what it says, and it names every call and every test. Runs in the project's folder. */
final class ReadmeTest {
    private static final String FENCE = "```";

    public static void main(String[] args) throws IOException, InterruptedException {
        String readme = Files.readString(Path.of("README.md"));
        dueExample(readme);
        dueCalls(readme);
        dueTests(readme);
        Check.finish("ReadmeTest");
    }

    private static void dueExample(String readme) throws IOException, InterruptedException {
        String printed = run(fenced(readme, "java"));
        boolean same = printed.equals(fenced(readme, "text"));
        Check.due("the program prints what README.md says", same, true);
        if (!same) {
            System.out.println(printed);
        }
    }

    private static void dueCalls(String readme) {
        for (Method method : StrandArchive.class.getDeclaredMethods()) {
            if (Modifier.isPublic(method.getModifiers())) {
                boolean named = readme.contains("| `" + method.getName() + "(");
                Check.due("README.md has a row for " + method.getName(), named, true);
            }
        }
    }

    private static void dueTests(String readme) throws IOException {
        try (DirectoryStream<Path> tests = Files.newDirectoryStream(Path.of("src/test/java"), "*Test.java")) {
            for (Path test : tests) {
                String name = test.getFileName().toString().replace(".java", "");
                Check.due("README.md tells of " + name, readme.contains("- `" + name + "`:"), true);
            }
        }
    }

    /** What stands in the first block of this kind; empty when there is none. */
    private static String fenced(String readme, String kind) {
        String opening = FENCE + kind + "\n";
        int start = readme.indexOf(opening) + opening.length();
        int end = readme.indexOf(FENCE, start);
        return readme.contains(opening) && end >= 0 ? readme.substring(start, end) : "";
    }

    /** Runs the program as README.md says to; answers what it prints, its faults too. */
    private static String run(String program) throws IOException, InterruptedException {
        Path folder = Files.createTempDirectory("readme");
        Path file = folder.resolve("Example.java");
        try {
            Files.writeString(file, program);
            String java = Path.of(System.getProperty("java.home"), "bin", "java").toString();
            Process process = new ProcessBuilder(java, "-cp", System.getProperty("java.class.path"), file.toString())
                    .redirectErrorStream(true)
                    .start();
            String printed = new String(process.getInputStream().readAllBytes());
            Check.due("the program's exit code", process.waitFor(), 0);
            return printed;
        } finally {
            Files.deleteIfExists(file);
            Files.deleteIfExists(folder);
        }
    }
}
