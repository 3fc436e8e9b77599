import java.io.IOException;
import java.nio.file.Files;
import java.nio.file.Path;
import java.util.regex.Matcher;
import java.util.regex.Pattern;

/** The example of README.md answers what its comments say, and this test holds each of its lines. */
public final class ReadmeTest {
    private static final Pattern ANSWER = Pattern.compile("(-?\\d+|true|false)(:.*)?");

    public static void main(String[] args) throws IOException {
        theExampleAnswers();
        theExampleIsTheOneOfTheReadme();
        aRefusedCallChangesNothing();
        Check.end();
    }

    private static void theExampleAnswers() {
        QueryGateway gateway = new QueryGateway();
        int author = gateway.addField(0, 1, false);
        int name = gateway.addField(1, -1, true);
        gateway.own(0, 0, author, true);
        gateway.own(2, 1, name, true);
        gateway.set(0, 5, author, 7);
        gateway.set(1, 7, name, 42);

        gateway.begin(0);
        int first = gateway.node(-1, author);
        int below = gateway.node(first, name);
        Check.same("hops", gateway.hops(), 2);
        Check.same("used", gateway.used(), 5);
        Check.same("value of the name", gateway.value(5, below), 42);
        Check.same("loaded", gateway.loaded(first, 0, 19), 1);
        Check.same("least", gateway.least(below), 5);
        gateway.fail(2, true);
        Check.same("value of the author", gateway.value(5, first), -1);
        Check.same("isMissing", gateway.isMissing(5), false);
        Check.same("faults", gateway.faults(5), 1);
        Check.same("harmed", gateway.harmed(), 1);
    }

    private static void theExampleIsTheOneOfTheReadme() throws IOException {
        String source = Files.readString(Path.of("src/test/java/ReadmeTest.java"));
        String readme = Files.readString(Path.of("README.md"));
        int start = readme.indexOf("```java\n") + 8;
        int end = readme.indexOf("```", start);
        int answers = 0;
        for (String line : readme.substring(start, end).lines().toList()) {
            String[] parts = line.split("//", 2);
            String statement = parts[0].strip();
            Matcher answer = ANSWER.matcher(parts.length < 2 ? "" : parts[1].strip());
            if (answer.matches()) {
                answers++;
                statement = statement.replace(";", ", " + answer.group(1) + ");");
            }
            Check.same("this test holds: " + statement, source.contains(statement), true);
        }
        Check.same("answers in the example", answers, 9);
    }

    private static void aRefusedCallChangesNothing() {
        QueryGateway gateway = new QueryGateway();
        Check.throwsExactly(IndexOutOfBoundsException.class, "node", () -> gateway.node(-1, 0));
        Check.same("nodes", gateway.nodes(), 0);
    }
}
