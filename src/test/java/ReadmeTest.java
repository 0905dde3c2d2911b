import java.io.IOException;
import java.lang.reflect.Method;
import java.lang.reflect.Modifier;
import java.nio.file.Files;
import java.nio.file.Path;
import java.util.ArrayList;
import java.util.List;

// README.md as it stands there: its example is the file that it names, its commands run and the example prints
// what the page says; every call of the class, every refusal by name and every test is told of.
public final class ReadmeTest {
    private static int wrong = 0;

    private static void report(String what) {
        wrong++;
        System.out.println(what);
    }

    private static String blockOf(String page, String mark) {
        int begin = page.indexOf("\n```" + mark + "\n");
        int end = begin < 0 ? -1 : page.indexOf("\n```\n", begin + 1);
        if (end < 0) {
            report("README.md has no block of " + mark);
            return "";
        }
        return page.substring(begin + mark.length() + 5, end + 1);
    }

    private static List<String> commandsOf(String page) {
        List<String> commands = new ArrayList<>();
        for (String line : page.split("\n")) {
            if (line.startsWith("    javac ") || line.startsWith("    java ")) {
                commands.add(line.trim());
            }
        }
        return commands;
    }

    private static String run(String command) throws IOException, InterruptedException {
        Process process = new ProcessBuilder(command.split(" ")).redirectErrorStream(true).start();
        String printed = new String(process.getInputStream().readAllBytes());
        if (process.waitFor() != 0) {
            report("'" + command + "' ended with " + process.exitValue() + ": " + printed);
        }
        return printed.replace("\r\n", "\n");
    }

    private static void isNamed(String page, String words) {
        if (!page.contains(words)) {
            report("README.md does not name " + words);
        }
    }

    private static void namesEveryCall(String page) {
        for (Method m : SewnUp.class.getDeclaredMethods()) {
            if (Modifier.isPublic(m.getModifiers())) {
                isNamed(page, "`" + m.getName() + "(");
            }
        }
        for (String name : new String[] {"BAD", "STATE", "FULL", "NONE", "NO"}) {
            isNamed(page, "`SewnUp." + name + "`");
        }
        for (String place : new String[] {"../shared/DOC.md", "    .ci/run\n", "new SewnUp()"}) {
            isNamed(page, place);
        }
    }

    private static void namesEveryTest(String page) throws IOException {
        try (var files = Files.newDirectoryStream(Path.of("src/test/java"), "*.java")) {
            for (Path file : files) {
                isNamed(page, "`" + file.getFileName().toString().replace(".java", "") + "`");
            }
        }
    }

    public static void main(String[] args) throws Exception {
        String page = Files.readString(Path.of("README.md"));
        if (!blockOf(page, "java").equals(Files.readString(Path.of("src/example/Dance.java")))) {
            report("the example in README.md is not src/example/Dance.java");
        }
        String printed = "";
        for (String command : commandsOf(page)) {
            String lines = run(command);
            printed = command.endsWith(" Dance") ? lines : printed;
        }
        if (!blockOf(page, "text").equals(printed)) {
            report("the example does not print what README.md says, but:\n" + printed);
        }
        namesEveryCall(page);
        namesEveryTest(page);
        System.out.println(wrong == 0 ? "README.md holds" : wrong + " things in README.md don't hold");
        if (wrong != 0) {
            System.exit(1);
        }
    }
}
