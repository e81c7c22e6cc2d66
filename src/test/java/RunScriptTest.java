import java.io.IOException;
import java.nio.file.Files;
import java.nio.file.Path;
import java.nio.file.StandardCopyOption;
import java.util.regex.Matcher;
import java.util.regex.Pattern;

/** The command that README.md names, made on small projects: it runs all tests, and fails if one fails. */
public final class RunScriptTest {
    private static final Path ROOM = Path.of("build/ci/RunScriptTest.trials");
    private static final String GOOD = "if (new PebbleBars().told(0) != 0) System.exit(1);";
    private static final String WRONG = "System.exit(new PebbleBars().told(0) + 1);";
    private static final String NO_JAVA = "this is none;";
    /** It passes, but javac has something to say of it. */
    private static final String WARNED = "long pins = new PebbleBars().told(0); if ((long) pins != 0L) System.exit(1);";

    private final Checks checks = new Checks();
    private final String command;

    private RunScriptTest(String command) {
        this.command = command;
    }

    public static void main(String[] args) throws IOException, InterruptedException {
        Matcher named = Pattern.compile("(?s)## Tests\n.*?\n {4}(\\S[^\n]*)\n").matcher(Files.readString(Path.of("README.md")));
        RunScriptTest test = new RunScriptTest(named.find() ? named.group(1) : "false");
        test.checks.due("README.md names the command", test.command.equals("sh .ci/run") ? 1 : 0, 1);
        test.checks.due(".ci/run can be run by its own name", Files.isExecutable(Path.of(".ci/run")) ? 1 : 0, 1);
        test.allRun();
        test.oneFails();
        test.noneIsThere();
        test.checks.close();
    }

    private void allRun() throws IOException, InterruptedException {
        Trial trial = new Trial("allRun").own("OneTest", GOOD).own("TwoTest", GOOD).given("Given", GOOD).given("Warned", WARNED);
        String[] told = {"passed: src/test/java/OneTest.java", "passed: src/test/java/TwoTest.java",
            "passed: ../shared/tests/Given.java", "passed: ../shared/tests/Warned.java", "4 passed, 0 failed"};
        ends("all pass", trial, true, told);
    }

    /** The others are run all the same. */
    private void oneFails() throws IOException, InterruptedException {
        ends("the first of the project fails", new Trial("first").own("OneTest", WRONG).own("TwoTest", GOOD).given("Given", GOOD),
                false, "FAILED: src/test/java/OneTest.java", "passed: ../shared/tests/Given.java", "2 passed, 1 failed");
        ends("one that is given fails", new Trial("given").own("OneTest", GOOD).given("First", WRONG).given("Given", GOOD),
                false, "FAILED: ../shared/tests/First.java", "passed: ../shared/tests/Given.java", "2 passed, 1 failed");
        ends("they are no Java", new Trial("noJava").own("OneTest", NO_JAVA).given("Given", NO_JAVA),
                false, "FAILED: src/test/java/OneTest.java", "FAILED: ../shared/tests/Given.java", "0 passed, 2 failed");
    }

    private void noneIsThere() throws IOException, InterruptedException {
        ends("none is given", new Trial("noneGiven").own("OneTest", GOOD), false, "no test is there: ../shared/tests/*.java");
        ends("the project has none", new Trial("noOwn").given("Given", GOOD), false, "no test is there: src/test/java/*Test.java");
    }

    private void ends(String what, Trial trial, boolean well, String... told) throws IOException, InterruptedException {
        int code = trial.run(command);
        checks.due(what + ": it ends well", code == 0 ? 1 : 0, well ? 1 : 0);
        String printed = "\n" + Files.readString(trial.printed) + "\n";
        for (String line : told) {
            checks.due(what + ": it tells '" + line + "' in" + printed, printed.contains("\n" + line + "\n") ? 1 : 0, 1);
        }
    }

    /** A project with this one's .ci/run, a program of one method, and tests of its own. */
    private static final class Trial {
        private final Path main;
        private final Path given;
        private final Path printed;

        Trial(String name) throws IOException {
            main = ROOM.resolve(name).resolve("main");
            given = ROOM.resolve(name).resolve("shared/tests");
            printed = ROOM.resolve(name).resolve("printed");
            Files.createDirectories(main.resolve(".ci"));
            Files.createDirectories(main.resolve("src/main/java"));
            Files.createDirectories(main.resolve("src/test/java"));
            Files.createDirectories(given);
            Files.copy(Path.of(".ci/run"), main.resolve(".ci/run"),
                    StandardCopyOption.REPLACE_EXISTING, StandardCopyOption.COPY_ATTRIBUTES);
            Files.writeString(main.resolve("src/main/java/PebbleBars.java"),
                    "public final class PebbleBars { public int told(int what) { return 0; } }");
        }

        Trial own(String name, String body) throws IOException {
            write(main.resolve("src/test/java"), name, body);
            return this;
        }

        Trial given(String name, String body) throws IOException {
            write(given, name, body);
            return this;
        }

        private static void write(Path folder, String name, String body) throws IOException {
            Files.writeString(folder.resolve(name + ".java"),
                    "public final class " + name + " { public static void main(String[] args) { " + body + " } }");
        }

        int run(String command) throws IOException, InterruptedException {
            return new ProcessBuilder("sh", "-c", command).directory(main.toFile())
                    .redirectErrorStream(true).redirectOutput(printed.toFile()).start().waitFor();
        }
    }
}
