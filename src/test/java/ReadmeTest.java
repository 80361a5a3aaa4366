import java.nio.file.Files;
import java.nio.file.Path;
import java.util.Comparator;
import java.util.List;
import java.util.regex.Matcher;
import java.util.regex.Pattern;
import java.util.stream.Stream;

/** README.md: its program compiles and prints what stands behind each line of it, and no call lacks. */
final class ReadmeTest {
    public static void main(String[] args) throws Exception {
        String readme = Files.readString(Path.of("README.md"));
        String program = readme.split("```java\n")[1].split("```")[0];
        List<String> printed = printedBy(program);
        Matcher due = Pattern.compile("say\\((LOFT.*)\\); // (-?\\d+)\n").matcher(program);
        int n = 0;
        for (; due.find(); n++) {
            String got = n < printed.size() ? printed.get(n) : "nothing";
            Loft.due(due.group(1) + " in README.md, which prints " + got, got.equals(due.group(2)), true);
        }
        Loft.due("lines with an answer", n, program.split("say\\(LOFT").length - 1);
        Loft.due("lines printed", printed.size(), n);
        calls(readme);
        Loft.close();
    }

    private static List<String> printedBy(String program) throws Exception {
        Path dir = Files.createTempDirectory("readme");
        try {
            Path source = Files.writeString(dir.resolve("Example.java"), program);
            String classes = System.getProperty("java.class.path");
            List<String> compiled = outputOf("javac", "-cp", classes, "-d", dir.toString(), source.toString());
            Loft.due("lines of the compiler " + compiled, compiled.size(), 0);
            return outputOf("java", "-cp", classes + java.io.File.pathSeparator + dir, "Example");
        } finally {
            try (Stream<Path> files = Files.walk(dir)) {
                files.sorted(Comparator.reverseOrder()).forEach(f -> f.toFile().delete());
            }
        }
    }

    private static List<String> outputOf(String... command) throws Exception {
        Process process = new ProcessBuilder(command).redirectError(ProcessBuilder.Redirect.INHERIT).start();
        List<String> lines = new String(process.getInputStream().readAllBytes()).lines().toList();
        Loft.due(command[0] + " on README.md's program", process.waitFor(), 0);
        return lines;
    }

    private static void calls(String readme) {
        for (java.lang.reflect.Method m : StormLoft.class.getMethods()) {
            if (m.getDeclaringClass() == StormLoft.class) {
                Loft.due("README.md on " + m.getName(), readme.contains("`" + m.getName() + "`"), true);
            }
        }
    }
}
