import java.io.IOException;
import java.nio.file.Files;
import java.nio.file.Path;
import java.util.HashMap;
import java.util.Map;
import java.util.regex.MatchResult;
import java.util.regex.Pattern;

/** The examples in README.md: every call is made, and the last of a line answers what stands after `//`. */
public final class ReadmeTest {
    private static final Pattern EXAMPLE = Pattern.compile("(?s)```java\n(.*?)```");
    private static final Pattern LINE = Pattern.compile("(.*;) *// ([^:;]*).*");
    private static final Pattern MADE = Pattern.compile("RegApprox (\\w) = new RegApprox\\((-?\\d+), (-?\\d+)\\);");
    private static final Pattern CALL = Pattern.compile("(\\w)\\.(\\w+)\\((-?\\d*)\\); ?");

    private final Check check = new Check("ReadmeTest");
    private final Map<String, RegApprox> objects = new HashMap<>();

    public static void main(String[] args) throws IOException, ReflectiveOperationException {
        ReadmeTest test = new ReadmeTest();
        for (MatchResult example : EXAMPLE.matcher(Files.readString(Path.of("README.md"))).results().toList()) {
            for (String line : example.group(1).lines().toList()) {
                test.line(line);
            }
        }
        test.check.end();
    }

    private void line(String line) throws ReflectiveOperationException {
        MatchResult parts = whole(LINE, line);
        String calls = parts.group(1);
        if (MADE.matcher(calls).matches()) {
            MatchResult made = whole(MADE, calls);
            objects.put(made.group(1),
                    new RegApprox(Integer.parseInt(made.group(2)), Integer.parseInt(made.group(3))));
        } else {
            String answer = answerOfLast(calls);
            check.due(line + " answered " + answer + ":", answer.equals(parts.group(2)), true);
        }
    }

    private String answerOfLast(String calls) throws ReflectiveOperationException {
        whole(Pattern.compile("(" + CALL.pattern() + ")+"), calls);
        Object answer = null;
        for (MatchResult call : CALL.matcher(calls).results().toList()) {
            RegApprox x = objects.get(call.group(1));
            String argument = call.group(3);
            answer = argument.isEmpty() ? RegApprox.class.getMethod(call.group(2)).invoke(x)
                    : RegApprox.class.getMethod(call.group(2), int.class).invoke(x, Integer.parseInt(argument));
        }
        return String.valueOf(answer);
    }

    // A line of another form would else go by unread.
    private static MatchResult whole(Pattern form, String text) {
        var matcher = form.matcher(text);
        if (!matcher.matches()) {
            throw new IllegalStateException("README.md has a line that this test can't read: " + text);
        }
        return matcher.toMatchResult();
    }
}
