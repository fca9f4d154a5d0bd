import java.nio.file.DirectoryStream;
import java.nio.file.Files;
import java.nio.file.Path;
import java.util.List;
import java.util.regex.Matcher;
import java.util.regex.Pattern;
import javax.tools.ToolProvider;

/** README.md's program runs and answers as README.md says; its lists and commands are whole. */
public final class ReadmeTests extends Checks {
    private static final String PROGRAM = "ReadmeProgram";
    private static final Pattern BLOCK = Pattern.compile("(?ms)^```java\n(.*?)^```$");
    private static final Pattern ANSWERED = Pattern.compile("((?:x\\.|tell\\().*\\)); *// (-?\\d+|BAD|STATE|FULL|NONE|NO)\\b.*");
    private static final Pattern FACE = Pattern.compile("public (?:int|long) (\\w+)\\(([^)]*)\\);");

    private ReadmeTests() {
    }

    public static void main(String[] args) throws Exception {
        title = "README.md: ";
        String readme = Files.readString(Path.of("README.md"));
        String program = programOf(readme);
        everyCallIsThere(readme, program);
        everyConstantIsThere(readme, program);
        everyTestIsThere(readme);
        commandsAreThoseOfCi(readme);
        run(program);
        end();
    }

    /** The blocks as one program: those that begin with static are its methods, the others its main part in their order. */
    private static String programOf(String readme) {
        StringBuilder methods = new StringBuilder();
        StringBuilder steps = new StringBuilder();
        Matcher block = BLOCK.matcher(readme);
        while (block.find()) {
            if (block.group(1).startsWith("static ")) {
                methods.append(block.group(1));
            } else {
                block.group(1).lines().forEach(line -> steps.append(stepOf(line)).append('\n'));
            }
        }
        return "final class " + PROGRAM + " {\n" + methods + "static void run() {\n" + steps + "}\n}\n";
    }

    private static String stepOf(String line) {
        Matcher answered = ANSWERED.matcher(line);
        if (!answered.matches()) {
            must("each call has its answer: " + line, line.equals("SmashedHours x = new SmashedHours();"));
            return line;
        }
        String call = answered.group(1);
        return "Checks.due(\"" + call.replace("\"", "\\\"") + "\", " + call + ", " + numberOf(answered.group(2)) + ");";
    }

    private static String numberOf(String answer) {
        return Character.isLetter(answer.charAt(0)) ? "Checks." + answer : answer;
    }

    private static void everyCallIsThere(String readme, String program) throws Exception {
        Matcher face = FACE.matcher(Files.readString(Path.of("../shared/DOC.md")));
        int calls = 0;
        while (face.find()) {
            calls++;
            String name = face.group(1);
            String row = "| `" + name + "(" + face.group(2).replace("int ", "") + ")` |";
            must("the table of calls has " + row, readme.contains(row));
            must("the program calls " + name, program.contains("x." + name + "("));
        }
        must("the face was found", calls == 29);
    }

    private static void everyConstantIsThere(String readme, String program) {
        constantIsThere(readme, "BAD", SmashedHours.BAD);
        constantIsThere(readme, "STATE", SmashedHours.STATE);
        constantIsThere(readme, "FULL", SmashedHours.FULL);
        constantIsThere(readme, "NONE", SmashedHours.NONE);
        constantIsThere(readme, "NO", SmashedHours.NO);
        for (String answer : List.of("BAD", "STATE", "NONE", "NO")) {
            must("a call of the program answers " + answer, program.contains(", Checks." + answer + ");"));
        }
    }

    private static void constantIsThere(String readme, String name, int number) {
        String row = "| `" + name + "` | " + number + " |";
        must("the table of constants has " + row, readme.contains(row));
    }

    private static void everyTestIsThere(String readme) throws Exception {
        int tests = 0;
        try (DirectoryStream<Path> files = Files.newDirectoryStream(Path.of("src/test/java"), "*.java")) {
            for (Path file : files) {
                tests++;
                must("the tests listed have " + file, readme.contains("- `" + file + "`"));
            }
        }
        must("the tests were found", tests > 0);
        Matcher listed = Pattern.compile("`(src/[\\w/]+\\.java)`").matcher(readme);
        while (listed.find()) {
            must(listed.group(1) + " is a file", Files.isRegularFile(Path.of(listed.group(1))));
        }
    }

    private static void commandsAreThoseOfCi(String readme) throws Exception {
        String ci = Files.readString(Path.of(".ci/run"));
        Matcher commands = Pattern.compile("if (javac .*) && (java .*); then").matcher(ci);
        boolean found = commands.find();
        must(".ci/run has the two commands", found);
        for (int i = 1; found && i <= 2; i++) {
            String command = forOneTest(commands.group(i));
            must("as .ci/run has it: " + command, readme.contains("\n" + command + "\n"));
        }
    }

    private static String forOneTest(String command) {
        return command.replace("\"", "")
            .replace("$out", "/tmp/hours")
            .replace("$source_file", "src/main/java/SmashedHours.java")
            .replace("$1", "src/test/java/PromiseTests.java")
            .replace("$name", "PromiseTests");
    }

    // Beside this test's own classes, so that it may use what tests share.
    private static void run(String program) throws Exception {
        String classes = System.getProperty("java.class.path");
        Path source = Files.writeString(Path.of(classes, PROGRAM + ".java"), program);
        int failed = ToolProvider.getSystemJavaCompiler().run(null, null, null,
            "-encoding", "UTF-8", "--release", "17", "-cp", classes, "-d", classes, source.toString());
        must("the program compiles", failed == 0);
        if (failed == 0) {
            Class.forName(PROGRAM).getDeclaredMethod("run").invoke(null);
        }
    }
}
