import java.io.IOException;
import java.lang.reflect.Method;
import java.lang.reflect.Modifier;
import java.nio.file.Files;
import java.nio.file.Path;
import java.util.ArrayList;
import java.util.Comparator;
import java.util.List;
import java.util.Set;
import java.util.TreeSet;
import java.util.regex.Matcher;
import java.util.regex.Pattern;
import java.util.stream.Collectors;
import java.util.stream.Stream;

/** README.md: its example is the one in the project, its commands work in a copy, its lists are whole. */
public final class ReadmeTest {
    private static final Path EXAMPLE = Path.of("src/example/java/Example.java");
    private static final Path TESTS = Path.of("src/test/java");
    private static final String RUN_ALL = ".ci/run\n";

    private static final Check CHECK = new Check();

    public static void main(String[] args) throws IOException, InterruptedException {
        String readme = Files.readString(Path.of("README.md"));
        List<String> programs = blocks(readme, "java");
        CHECK.due("the one program is " + EXAMPLE, programs.equals(List.of(Files.readString(EXAMPLE))), true);
        commands(blocks(readme, "sh"), blocks(readme, "text"));
        namesEveryTest(readme);
        namesEveryMethod(readme);
        CHECK.end();
    }

    private static List<String> blocks(String readme, String kind) {
        Matcher found = Pattern.compile("(?ms)^```" + kind + "\\n(.*?)^```$").matcher(readme);
        List<String> blocks = new ArrayList<>();
        while (found.find()) {
            blocks.add(found.group(1));
        }
        return blocks;
    }

    /** The command that runs all tests is not run here, as it would run this one again. */
    private static void commands(List<String> commands, List<String> outputs)
            throws IOException, InterruptedException {
        CHECK.due("blocks of commands", commands.size(), 3);
        CHECK.due("blocks of output", outputs.size(), 1);
        if (CHECK.failed()) {
            return;
        }
        CHECK.due("what the example prints", run(commands.get(0)).equals("0\n" + outputs.get(0)), true);
        CHECK.due("the second runs all tests", commands.get(1).equals(RUN_ALL), true);
        CHECK.due("the script can be run", Files.isExecutable(Path.of(RUN_ALL.strip())), true);
        CHECK.due("the third ends well", run(commands.get(2)).startsWith("0\n"), true);
    }

    /** The code that the commands end with, and a line for each that they print, in a clean copy. */
    private static String run(String commands) throws IOException, InterruptedException {
        Path home = Files.createTempDirectory("readme");
        try {
            copy(Path.of("src"), home);
            Process shell = new ProcessBuilder("sh", "-e", "-c", commands)
                .directory(home.toFile()).redirectError(ProcessBuilder.Redirect.INHERIT).start();
            String printed = new String(shell.getInputStream().readAllBytes());
            return shell.waitFor() + "\n" + printed;
        } finally {
            remove(home);
        }
    }

    private static void copy(Path from, Path to) throws IOException {
        try (Stream<Path> all = Files.walk(from)) {
            for (Path path : all.collect(Collectors.toList())) {
                Files.copy(path, to.resolve(path));
            }
        }
    }

    private static void remove(Path home) throws IOException {
        try (Stream<Path> all = Files.walk(home)) {
            for (Path path : all.sorted(Comparator.reverseOrder()).collect(Collectors.toList())) {
                Files.delete(path);
            }
        }
    }

    private static void namesEveryTest(String readme) throws IOException {
        Set<String> named = new TreeSet<>();
        Matcher found = Pattern.compile("(?m)^- `(\\w+Test)`:").matcher(readme);
        while (found.find()) {
            named.add(found.group(1));
        }
        Set<String> there = new TreeSet<>();
        try (Stream<Path> files = Files.list(TESTS)) {
            files.map(file -> file.getFileName().toString().replace(".java", ""))
                .filter(name -> name.endsWith("Test")).forEach(there::add);
        }
        CHECK.due("tests named " + named + ", there " + there, named.equals(there), true);
    }

    private static void namesEveryMethod(String readme) {
        for (Method method : TheorySolver.class.getDeclaredMethods()) {
            if (Modifier.isPublic(method.getModifiers())) {
                CHECK.due("names " + method.getName(), readme.contains("`" + method.getName() + "("), true);
            }
        }
    }
}
