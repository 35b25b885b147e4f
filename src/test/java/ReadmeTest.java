import java.io.IOException;
import java.lang.reflect.Method;
import java.nio.charset.StandardCharsets;
import java.nio.file.Files;
import java.nio.file.Path;
import java.util.Comparator;
import java.util.List;
import java.util.regex.Matcher;
import java.util.regex.Pattern;
import java.util.stream.Collectors;
import java.util.stream.Stream;

/** What README.md says is so: its program, its commands and what they print, its calls and its tests. */
public final class ReadmeTest {
    private static final Path SOURCE = Path.of("src/main/java/DownhillWhispers.java");
    private static final Path TESTS = Path.of("src/test/java");

    private static int wrong = 0;

    private static void right(boolean is, String what) {
        if (!is) {
            wrong++;
            System.out.println("not so: " + what);
        }
    }

    public static void main(String[] args) throws Exception {
        String readme = Files.readString(Path.of("README.md"));
        program(readme);
        calls(readme);
        tests(readme);
        System.out.println(wrong == 0 ? "what the README says is so" : wrong + " things that it says are not so");
        if (wrong != 0) {
            System.exit(1);
        }
    }

    /** The first block of this sort between its fences. */
    private static String block(String readme, String sort) {
        Matcher fenced = Pattern.compile("```" + sort + "\n(.*?)```", Pattern.DOTALL).matcher(readme);
        boolean is = fenced.find();
        right(is, "there is a block of " + sort);
        return is ? fenced.group(1) : "";
    }

    private static void program(String readme) throws Exception {
        Path folder = Files.createTempDirectory("readme");
        try {
            Files.createDirectories(folder.resolve(SOURCE).getParent());
            Files.copy(SOURCE, folder.resolve(SOURCE));
            Files.writeString(folder.resolve("Walk.java"), block(readme, "java"));
            Process run = new ProcessBuilder("sh", "-e", "-c", block(readme, "sh"))
                    .directory(folder.toFile()).redirectErrorStream(true).start();
            String printed = new String(run.getInputStream().readAllBytes(), StandardCharsets.UTF_8);
            right(run.waitFor() == 0, "the program runs");
            right(printed.equals(block(readme, "text")), "it prints what is told, but:\n" + printed);
        } finally {
            delete(folder);
        }
    }

    private static void delete(Path folder) throws IOException {
        List<Path> all;
        try (Stream<Path> walk = Files.walk(folder)) {
            all = walk.sorted(Comparator.reverseOrder()).collect(Collectors.toList());
        }
        for (Path path : all) {
            Files.delete(path);
        }
    }

    private static void calls(String readme) {
        for (Method m : DownhillWhispers.class.getDeclaredMethods()) {
            boolean isPublic = java.lang.reflect.Modifier.isPublic(m.getModifiers());
            right(!isPublic || readme.contains("`" + m.getName() + "`"), "the call is named: " + m.getName());
        }
        String findings = readme.replaceAll("\\s+", " ");
        String[] names = {"BEYOND", "FULL", "KIND", "NONE", "STATE", "MISSING", "SIZE"};
        for (int i = 0; i < names.length; i++) {
            right(findings.contains(names[i] + " " + (-1000001 - i)), "the finding is told: " + names[i]);
        }
    }

    private static void tests(String readme) throws IOException {
        try (Stream<Path> files = Files.list(TESTS)) {
            for (Path file : files.collect(Collectors.toList())) {
                String name = file.getFileName().toString().replace(".java", "");
                right(readme.contains("`" + name), "the test is named: " + name);
            }
        }
        Matcher named = Pattern.compile("`(\\w+Test)`").matcher(readme);
        while (named.find()) {
            right(Files.exists(TESTS.resolve(named.group(1) + ".java")), "there is a test " + named.group(1));
        }
    }
}
