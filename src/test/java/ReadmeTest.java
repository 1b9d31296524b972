import java.io.IOException;
import java.nio.file.Files;
import java.nio.file.Path;
import java.util.List;
import java.util.regex.Matcher;
import java.util.regex.Pattern;
import java.util.stream.Stream;

/** What README.md says: the answers of its example, its report, and the tests that it names. */
public final class ReadmeTest {
    private static final Checks CHECKS = new Checks("ReadmeTest");
    /** A call of the example, and its answer, which ends with a colon. */
    private static final Pattern CALL = Pattern.compile("x\\.(\\w+)\\((.*)\\); +// (\\w+):(.*)");

    public static void main(String[] args) throws IOException {
        String readme = Files.readString(Path.of("README.md"));
        LayeredMulticast x = example(block(readme, "java"));
        CHECKS.due("the report of the example", Checks.report(x), block(readme, "text"));
        namedTests(readme);
        CHECKS.end();
    }

    private static String block(String readme, String kind) {
        Matcher m = Pattern.compile("(?s)```" + kind + "\n(.*?)```").matcher(readme);
        boolean found = m.find();
        CHECKS.due("a block of " + kind, found, true);
        return found ? m.group(1) : "";
    }

    private static LayeredMulticast example(String code) {
        Script script = new Script(new LayeredMulticast());
        for (String line : code.split("\n")) {
            Matcher m = CALL.matcher(line);
            if (m.matches()) {
                check(script, m);
            } else {
                CHECKS.due("a line without an answer: " + line, line.contains("x."), false);
            }
        }
        CHECKS.due("calls of the example", script.calls > 0 && script.calls <= Boundary.MOST_CALLS, true);
        return script.x;
    }

    private static void check(Script script, Matcher m) {
        StringBuilder call = new StringBuilder(m.group(1));
        StringBuilder bytes = new StringBuilder();
        for (String argument : m.group(2).isEmpty() ? new String[0] : m.group(2).split(", ")) {
            int value = Integer.decode(argument);
            call.append(' ').append(value);
            for (int shift = 24; shift >= 0; shift -= 8) {
                bytes.append((char) (value >>> shift & 255));
            }
        }
        CHECKS.due(m.group(1) + "(" + m.group(2) + ")", script.answer(call.toString()), Script.due("= " + m.group(3)));
        if (m.group(1).equals("append")) {
            CHECKS.due("the bytes of append(" + m.group(2) + ")", m.group(4).trim(), "\"" + bytes + "\"");
        }
    }

    /** Every test is named, and every name between backticks that looks like a test is one. */
    private static void namedTests(String readme) throws IOException {
        try (Stream<Path> files = Files.list(Path.of("src/test/java"))) {
            List<String> tests = files.map(file -> file.getFileName().toString())
                    .filter(name -> name.endsWith("Test.java"))
                    .map(name -> name.replace(".java", "")).sorted().toList();
            for (String test : tests) {
                CHECKS.due("README.md names " + test, readme.contains("`" + test + "`"), true);
            }
            Matcher m = Pattern.compile("`(\\w+Test)`").matcher(readme);
            while (m.find()) {
                CHECKS.due("there is a test " + m.group(1), tests.contains(m.group(1)), true);
            }
        }
    }
}
