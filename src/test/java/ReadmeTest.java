import java.io.File;
import java.io.IOException;
import java.nio.file.Files;
import java.nio.file.Path;
import java.util.ArrayList;
import java.util.List;
import java.util.TreeSet;
import java.util.regex.Matcher;
import java.util.regex.Pattern;
import java.util.stream.Stream;

/** What README.md says holds when it is done word for word. Runs at the project's root. */
public final class ReadmeTest {
    private static final Pattern BLOCK = Pattern.compile("(?ms)^```(java|sh|text)\n(.*?)^```$");
    private static final Pattern ROW = Pattern.compile("(?m)^\\| `(\\w+Test)` \\|");
    private static final Pattern FINDING = Pattern.compile("(?m)^\\| (-\\d+) \\| ([A-Z]+) \\|");
    private static final Due due = new Due();

    private ReadmeTest() {
    }

    public static void main(String[] args) throws IOException, InterruptedException {
        String readme = Files.readString(Path.of("README.md"));
        tests(readme);
        findings(readme);
        Path root = Files.createTempDirectory("readme");
        try {
            copyOfTheProject(root);
            blocks(readme, root);
        } finally {
            remove(root);
        }
        due.end();
    }

    /** Its table has each test, and no other. */
    private static void tests(String readme) throws IOException {
        TreeSet<String> there = new TreeSet<>();
        try (Stream<Path> files = Files.list(Path.of("src/test/java"))) {
            files.map(f -> f.getFileName().toString()).filter(f -> f.endsWith("Test.java"))
                .forEach(f -> there.add(f.substring(0, f.length() - ".java".length())));
        }
        List<String> told = new ArrayList<>();
        Matcher row = ROW.matcher(readme);
        while (row.find()) told.add(row.group(1));
        for (String test : there) due.is("a row of " + test, told.contains(test) ? 1 : 0, 1);
        for (String test : told) due.is("a test of the row " + test, there.contains(test) ? 1 : 0, 1);
        due.is("rows of tests", told.size(), there.size());
    }

    private static void findings(String readme) {
        String[] names = {"BEYOND", "FULL", "KIND", "NONE", "STATE", "MISSING", "SIZE"};
        Matcher row = FINDING.matcher(readme);
        int n = 0;
        while (row.find()) {
            due.is("the number of finding " + n, Long.parseLong(row.group(1)), Due.BEYOND - n);
            due.is(row.group(2) + " in its place", n < names.length && row.group(2).equals(names[n]) ? 1 : 0, 1);
            n++;
        }
        due.is("findings told", n, names.length);
    }

    private static void copyOfTheProject(Path root) throws IOException {
        for (String directory : new String[] {"src/main/java", "src/test/java"}) {
            Files.createDirectories(root.resolve(directory));
            try (Stream<Path> files = Files.list(Path.of(directory))) {
                for (Path file : (Iterable<Path>) files::iterator) Files.copy(file, root.resolve(file.toString()));
            }
        }
    }

    /** A program is put into its file; commands are run; a text is what the commands ahead of it print. */
    private static void blocks(String readme, Path root) throws IOException, InterruptedException {
        String printed = "";
        int texts = 0;
        Matcher block = BLOCK.matcher(readme);
        while (block.find()) {
            String words = block.group(2);
            if (block.group(1).equals("java")) {
                Files.writeString(root.resolve("Example.java"), words);
            } else if (block.group(1).equals("text")) {
                due.is("printed: " + printed + "told: " + words, printed.equals(words) ? 1 : 0, 1);
                texts++;
            } else if (!words.contains(".ci/run")) {
                // This test is run by .ci/run itself.
                printed = run(words, root);
            }
        }
        due.is("texts that are printed", texts, 1);
        due.is("the last block tells at its end that all is due", printed.endsWith("all answers are as due\n") ? 1 : 0, 1);
    }

    private static String run(String commands, Path root) throws IOException, InterruptedException {
        File out = root.resolve("printed").toFile();
        Process process = new ProcessBuilder("sh", "-e", "-c", commands).directory(root.toFile())
            .redirectErrorStream(true).redirectOutput(out).start();
        int code = process.waitFor();
        String printed = Files.readString(out.toPath());
        due.is("exit code of " + commands + printed, code, 0);
        return printed;
    }

    private static void remove(Path path) throws IOException {
        if (Files.isDirectory(path)) {
            List<Path> inside;
            try (Stream<Path> files = Files.list(path)) {
                inside = files.toList();
            }
            for (Path file : inside) remove(file);
        }
        Files.delete(path);
    }
}
