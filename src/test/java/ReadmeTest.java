import java.io.File;
import java.io.IOException;
import java.lang.reflect.Method;
import java.lang.reflect.Modifier;
import java.nio.file.Files;
import java.nio.file.Path;
import java.util.ArrayList;
import java.util.Comparator;
import java.util.List;
import java.util.regex.Matcher;
import java.util.regex.Pattern;
import java.util.stream.Stream;

/** README.md holds: its examples answer as told, its commands pass, it names every call and every test. */
public final class ReadmeTest {
    /** A call of an example, and the answer that the words behind it tell first. */
    private static final Pattern TOLD = Pattern.compile("(x\\.\\w+\\(.*\\)); +// (-?\\d+|[A-Z]{4,}): .*");

    public static void main(String[] args) throws IOException, InterruptedException {
        String readme = Files.readString(Path.of("README.md"));
        Path room = Files.createTempDirectory("readme");
        try {
            namesEveryCall(readme);
            namesEveryTest(readme);
            examplesAnswerAsTold(readme, room);
            commandsPass(readme, room);
        } finally {
            sweep(room);
        }
        Due.close("ReadmeTest");
    }

    private static void namesEveryCall(String readme) {
        for (Method m : BoxFlickers.class.getDeclaredMethods()) {
            if (Modifier.isPublic(m.getModifiers())) {
                Due.that("an example calls " + m.getName(), readme.contains("x." + m.getName() + "("));
                Due.that("the table of calls has " + m.getName() + " with its parameters",
                    parametersInTable(readme, m.getName()) == m.getParameterCount());
            }
        }
    }

    private static int parametersInTable(String readme, String name) {
        Matcher m = Pattern.compile("\n\\| `" + name + "\\((.*?)\\)` \\|").matcher(readme);
        if (!m.find()) {
            return -1;
        }
        return m.group(1).isEmpty() ? 0 : m.group(1).split(", ").length;
    }

    private static void namesEveryTest(String readme) {
        for (File file : new File("src/test/java").listFiles()) {
            String name = file.getName().replace(".java", "");
            if (name.endsWith("Test")) {
                Due.that("the table of tests has " + name, readme.contains("\n| `" + name + "` |"));
            }
        }
        Matcher row = Pattern.compile("\n\\| `(\\w+Test)` \\|").matcher(readme);
        while (row.find()) {
            Due.that(row.group(1) + " is a test", new File("src/test/java", row.group(1) + ".java").isFile());
        }
    }

    /** All examples are one program, so that each goes on where the one ahead of it ended. */
    private static void examplesAnswerAsTold(String readme, Path room) throws IOException, InterruptedException {
        StringBuilder program = new StringBuilder("public final class Example {\n    public static void main(String[] args) {\n");
        int told = 0;
        Matcher block = Pattern.compile("(?s)```java\n(.*?)```").matcher(readme);
        while (block.find()) {
            for (String line : block.group(1).split("\n")) {
                Matcher m = TOLD.matcher(line);
                boolean tells = m.matches();
                told += tells ? 1 : 0;
                program.append(tells ? check(m.group(1), m.group(2)) : line).append('\n');
            }
        }
        program.append("    }\n}\n");
        Due.that("examples tell answers", told >= 20);
        Files.writeString(room.resolve("Example.java"), program.toString());
        String classes = System.getProperty("java.class.path") + File.pathSeparator + room;
        Due.is("javac of the examples", run(room, "javac", "--release", "17", "-cp", classes, "-d", room.toString(),
            room.resolve("Example.java").toString()), 0);
        Due.is("the examples", run(room, "java", "-cp", classes, "Example"), 0);
    }

    private static String check(String call, String answer) {
        String due = Character.isLetter(answer.charAt(0)) ? "BoxFlickers." + answer : answer;
        return "if (" + call + " != " + due + ") { System.out.println(\"README.md: " + call + " is not " + answer
            + "\"); System.exit(1); }";
    }

    /** The commands just as they stand there, but .ci/run itself: that is what runs this test. */
    private static void commandsPass(String readme, Path room) throws IOException, InterruptedException {
        List<String> commands = new ArrayList<>();
        for (String line : readme.substring(readme.indexOf("## Tests")).split("\n")) {
            if (line.startsWith("    ")) {
                commands.add(line.trim());
            }
        }
        Due.that("README.md gives .ci/run", commands.remove(".ci/run"));
        Due.that(".ci/run can be run", new File(".ci/run").canExecute());
        Due.that("README.md gives commands by hand", commands.size() >= 3);
        Due.is("the commands of README.md", run(room, "sh", "-e", "-u", "-c", String.join("\n", commands)), 0);
    }

    /** What the command says is shown only if it fails. */
    private static int run(Path room, String... command) throws IOException, InterruptedException {
        Path said = room.resolve("said");
        ProcessBuilder builder = new ProcessBuilder(command).redirectErrorStream(true).redirectOutput(said.toFile());
        builder.environment().put("TMPDIR", room.toString());
        int code = builder.start().waitFor();
        if (code != 0) {
            System.out.println(Files.readString(said));
        }
        return code;
    }

    private static void sweep(Path room) throws IOException {
        try (Stream<Path> all = Files.walk(room)) {
            for (Path path : all.sorted(Comparator.reverseOrder()).toList()) {
                Files.delete(path);
            }
        }
    }
}
