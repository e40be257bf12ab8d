import java.io.IOException;
import java.lang.reflect.Method;
import java.lang.reflect.Modifier;
import java.nio.charset.StandardCharsets;
import java.nio.file.Files;
import java.nio.file.Path;
import java.util.ArrayList;
import java.util.Arrays;
import java.util.List;
import java.util.TreeSet;
import java.util.regex.Matcher;
import java.util.regex.Pattern;
import java.util.stream.Collectors;
import java.util.stream.Stream;

/** What README.md says of the class and of its tests is so. */
public final class ReadmeTest {
    private static final Pattern TOLD = Pattern.compile("\\w+ (\\w+) = .*; +// ([^:]+).*");
    private static final Pattern NAME = Pattern.compile("`(\\w+)`");

    public static void main(String[] args) throws IOException, InterruptedException {
        List<String> lines = Files.readAllLines(Path.of("README.md"), StandardCharsets.UTF_8);
        Path folder = Files.createTempDirectory("readme");
        try {
            theExample(lines, folder);
            theCommandsOfATest(lines, folder);
        } finally {
            delete(folder);
        }
        theCalls(lines);
        theTests(lines);
        theLimits();
        Checks.end();
    }

    /** The example as the program that the page speaks of; each answer told behind // is due. */
    private static void theExample(List<String> lines, Path folder) throws IOException, InterruptedException {
        int from = lines.indexOf("```java") + 1;
        List<String> example = lines.subList(from, from + lines.subList(from, lines.size()).indexOf("```"));
        StringBuilder program = new StringBuilder("public class YourProgram { public static void main(String[] a) {\n");
        List<String> want = new ArrayList<>();
        for (String line : example) {
            program.append(line).append('\n');
            Matcher told = TOLD.matcher(line);
            if (told.matches()) {
                program.append("System.out.println(").append(told.group(1)).append(");\n");
                want.add(told.group(2));
            }
        }
        Path file = folder.resolve("YourProgram.java");
        Files.writeString(file, program.append("}}\n").toString());
        Checks.due("README.md: answers in the example", 6, want.size());
        command(lines, "javac -d out src/main/java/StampBureau.java YourProgram.java", folder, file.toString());
        String got = command(lines, "java -cp out YourProgram", folder, "");
        Checks.due("README.md: the answers of the example", want.toString(), Arrays.toString(got.split("\\R")));
    }

    private static void theCommandsOfATest(List<String> lines, Path folder) throws IOException, InterruptedException {
        command(lines, "javac -d out -sourcepath src/test/support src/main/java/StampBureau.java src/test/java/SheetsTest.java",
            folder, "");
        command(lines, "java -cp out SheetsTest", folder, "");
        Checks.due("README.md: .ci/run", true, lines.contains("    .ci/run") && Files.isExecutable(Path.of(".ci/run")));
    }

    /** Runs a command of the page, with the folder for "out" and the file of the example for YourProgram.java. */
    private static String command(List<String> lines, String command, Path folder, String program)
            throws IOException, InterruptedException {
        Checks.due("README.md tells: " + command, true, lines.contains("    " + command));
        List<String> words = new ArrayList<>();
        for (String word : command.split(" ")) {
            words.add(word.equals("out") ? folder.resolve("out").toString() : word.equals("YourProgram.java") ? program : word);
        }
        words.set(0, Path.of(System.getProperty("java.home"), "bin", words.get(0)).toString());
        Process process = new ProcessBuilder(words).redirectErrorStream(true).start();
        String printed = new String(process.getInputStream().readAllBytes(), StandardCharsets.UTF_8);
        Checks.due("README.md: " + command + ": exit code, " + printed, 0, process.waitFor());
        return printed.strip();
    }

    private static void theCalls(List<String> lines) {
        String want = Arrays.stream(StampBureau.class.getDeclaredMethods())
            .filter(method -> Modifier.isPublic(method.getModifiers())).map(Method::getName)
            .sorted().collect(Collectors.joining(" "));
        Checks.due("README.md: the calls in its table", want, firstColumn(lines, "| calls | what for |"));
    }

    private static void theTests(List<String> lines) throws IOException {
        Checks.due("README.md: the tests in its table", javaFiles("src/test/java"),
            firstColumn(lines, "| test | what it holds |"));
        Checks.due("README.md: what the tests share", javaFiles("src/test/support"), names(lastParagraph(lines)));
    }

    private static String lastParagraph(List<String> lines) {
        return String.join(" ", lines.subList(lines.lastIndexOf("") + 1, lines.size()));
    }

    private static String firstColumn(List<String> lines, String head) {
        StringBuilder cells = new StringBuilder();
        for (int k = lines.indexOf(head) + 2; k < lines.size() && lines.get(k).startsWith("|"); k++) {
            cells.append(lines.get(k).split("\\|")[1]);
        }
        return names(cells.toString());
    }

    private static String names(String text) {
        TreeSet<String> names = new TreeSet<>();
        Matcher name = NAME.matcher(text);
        while (name.find()) {
            names.add(name.group(1));
        }
        return String.join(" ", names);
    }

    private static String javaFiles(String folder) throws IOException {
        try (Stream<Path> files = Files.list(Path.of(folder))) {
            return files.map(file -> file.getFileName().toString().replace(".java", "")).sorted()
                .collect(Collectors.joining(" "));
        }
    }

    /** As many as the page says, one by one; then one more is refused. */
    private static void theLimits() {
        Script s = new Script("README.md: how many there are at most");
        for (int k = 0; k < 10; k++) {
            limited(s, "addPlate 8 8", k, 6);
            s.due("addFlaw 0 0 0 0 0 1", k + 1);
            limited(s, "addPaper 1 1", k, 4);
            limited(s, "print 0 0 0 0", k, 10);
        }
        for (int k = 0; k < 40; k++) {
            s.due("tear 0 " + k / 8 + " " + k % 8, k);
        }
        s.state("addPlate 8 8").state("addFlaw 0 0 0 0 0 1").state("addPaper 1 1").state("print 0 0 0 0").state("tear 0 5 0");
    }

    private static void limited(Script s, String call, int number, int most) {
        if (number < most) {
            s.due(call, number);
        }
    }

    private static void delete(Path folder) throws IOException {
        try (Stream<Path> files = Files.walk(folder)) {
            for (Path file : files.sorted((a, b) -> b.compareTo(a)).collect(Collectors.toList())) {
                Files.delete(file);
            }
        }
    }
}
