import java.io.File;
import java.io.IOException;
import java.nio.file.Files;
import java.nio.file.Path;
import java.util.ArrayList;
import java.util.List;
import java.util.Set;
import java.util.TreeSet;
import java.util.concurrent.ExecutorService;
import java.util.concurrent.Executors;
import java.util.concurrent.Future;
import java.util.concurrent.TimeUnit;
import java.util.regex.Matcher;
import java.util.regex.Pattern;

/**
 * Breaks the class on purpose, sentence by sentence, and looks whether the test of that sentence tells it.
 * Run by hand, in the project's directory: java src/test/breaks/Breaks.java
 * The breaks stand in breaks.txt; .ci/run does not use them, as they are bound to the class's own lines.
 */
public final class Breaks {
    private static final String[] TESTS = {"BordersOfTermsTest", "BordersOfTextsTest", "BordersOfChangesTest", "BordersOfToldTest"};
    private static final Path CLASS = Path.of("src/main/java/BoxFlickers.java");

    private record Break(String sentence, String old, String put) {
    }

    public static void main(String[] args) throws Exception {
        Path room = Files.createTempDirectory("breaks");
        Path tests = room.resolve("tests");
        compile(tests, CLASS.toString(), "src/test/java");
        List<Break> breaks = read(Files.readString(Path.of("src/test/breaks/breaks.txt")));
        ExecutorService workers = Executors.newFixedThreadPool(Math.max(1, Runtime.getRuntime().availableProcessors() - 1));
        List<Future<String>> told = new ArrayList<>();
        for (int i = 0; i < breaks.size(); i++) {
            Break one = breaks.get(i);
            Path own = room.resolve("break" + i);
            told.add(workers.submit(() -> tryOne(one, own, tests)));
        }
        int missed = 0;
        for (Future<String> answer : told) {
            if (!answer.get().isEmpty()) {
                missed++;
                System.out.println(answer.get());
            }
        }
        workers.shutdown();
        missed += unbroken(breaks);
        System.out.println(breaks.size() + " breaks, " + missed + " not told");
        System.exit(missed == 0 ? 0 : 1);
    }

    /** Each break: a line with the sentence, the lines that go behind "-", those that come instead behind "+". */
    private static List<Break> read(String text) {
        List<Break> breaks = new ArrayList<>();
        for (String part : text.split("\n\n+")) {
            StringBuilder sentence = new StringBuilder();
            StringBuilder old = new StringBuilder();
            StringBuilder put = new StringBuilder();
            for (String line : part.split("\n")) {
                StringBuilder to = line.startsWith("-") ? old : line.startsWith("+") ? put : sentence;
                to.append(to.length() > 0 ? "\n" : "").append(to == sentence ? line : line.substring(1));
            }
            if (!sentence.toString().startsWith("#")) {
                breaks.add(new Break(sentence.toString(), old.toString(), put.toString()));
            }
        }
        return breaks;
    }

    private static String tryOne(Break one, Path own, Path tests) throws Exception {
        String text = Files.readString(CLASS);
        int at = text.indexOf(one.old());
        if (at < 0 || text.indexOf(one.old(), at + 1) >= 0) {
            return "[" + one.sentence() + "] these lines do not stand in the class just once:\n" + one.old();
        }
        Files.createDirectories(own);
        Path broken = own.resolve("BoxFlickers.java");
        Files.writeString(broken, text.substring(0, at) + one.put() + text.substring(at + one.old().length()));
        compile(own, broken.toString(), null);
        String path = own + File.pathSeparator + tests;
        StringBuilder all = new StringBuilder();
        for (String test : TESTS) {
            all.append(run("java", "-Xshare:auto", "-XX:TieredStopAtLevel=1", "-cp", path, test));
        }
        return all.indexOf("[" + one.sentence()) >= 0 ? "" : "[" + one.sentence() + "] is not told to be broken by\n" + one.put();
    }

    private static void compile(Path to, String file, String testsOf) throws Exception {
        List<String> command = new ArrayList<>(List.of("javac", "--release", "17", "-d", to.toString(), file));
        if (testsOf != null) {
            for (File test : new File(testsOf).listFiles((dir, name) -> name.endsWith(".java"))) {
                command.add(test.getPath());
            }
        }
        String said = run(command.toArray(new String[0]));
        if (!said.isEmpty()) {
            throw new IllegalStateException(String.join(" ", command) + "\n" + said);
        }
    }

    private static String run(String... command) throws IOException, InterruptedException {
        Path out = Files.createTempFile("breaks", ".out");
        Process process = new ProcessBuilder(command).redirectErrorStream(true).redirectOutput(out.toFile()).start();
        if (!process.waitFor(60, TimeUnit.SECONDS)) {
            process.destroyForcibly();
        }
        return Files.readString(out);
    }

    /** Sentences that the tests name and that no break tries. */
    private static int unbroken(List<Break> breaks) throws IOException {
        Set<String> named = new TreeSet<>();
        for (String test : TESTS) {
            String text = Files.readString(Path.of("src/test/java", test + ".java")).replaceAll("\"\\s*\\+ \"", "");
            Matcher m = Pattern.compile("Due\\.sentence\\(\"(.*)\"\\);").matcher(text);
            while (m.find()) {
                named.add(m.group(1).replace("\\\"", "\""));
            }
        }
        named.removeIf(sentence -> breaks.stream().anyMatch(one -> sentence.startsWith(one.sentence())));
        named.forEach(sentence -> System.out.println("[" + sentence + "] has no break"));
        return named.size();
    }
}
