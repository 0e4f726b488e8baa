import java.io.IOException;
import java.nio.file.Files;
import java.nio.file.Path;
import java.util.ArrayList;
import java.util.HashMap;
import java.util.List;
import java.util.Map;
import java.util.Set;
import java.util.TreeSet;
import java.util.regex.MatchResult;
import java.util.regex.Pattern;

/** The rules of LANGUAGE.md that can be read off the program's text. Runs in the project's root folder. */
public final class SourceRulesTest {
    private static final Pattern METHOD = Pattern.compile(
            "\n    (public|private)( static)?( int| boolean| void)? (\\w+)\\(([^)]*)\\) \\{\n(.*?)\n    \\}\n",
            Pattern.DOTALL);
    private static final Pattern CALL = Pattern.compile("\\b(\\w+)\\(");
    private static final Pattern FIELD_ARRAY = Pattern.compile(
            "(?m)^    private final \\w+\\[\\] \\w+ = new \\w+\\[\\w+\\];$");
    private static final Set<String> WORDS_BEFORE_BRACKET = Set.of("if", "for", "while", "switch", "return");

    private final Check check = new Check("SourceRulesTest");
    private final String source;
    private final Map<String, String> bodies = new HashMap<>();

    private SourceRulesTest(String source) {
        this.source = source;
    }

    public static void main(String[] args) throws IOException {
        String text = Files.readString(Path.of("src/main/java/RegApprox.java"));
        SourceRulesTest test = new SourceRulesTest(text.replaceAll("//[^\n]*", "").replaceAll("(?s)/\\*.*?\\*/", ""));
        test.words();
        test.arrays();
        test.methods();
        test.calls();
        test.fields();
        test.check.end();
    }

    private void words() {
        String banned = "import|package|interface|enum|record|float|double|String|Object|Math|Integer|Arrays|System|null"
                + "|throw|throws|try|catch|finally|synchronized|assert|instanceof|protected|super|var|extends|implements";
        check.due("words that are ruled out", find("\\b(" + banned + ")\\b").size(), 0);
        check.due("classes", find("\\bclass\\b").size(), 1);
        check.due("dots that do not follow `this`", find("(?<!\\bthis)\\.").size(), 0);
        check.due("lambdas, method references, annotations, text", find("->|::|@|\"").size(), 0);
        check.due("arrays of arrays", find("\\]\\s*\\[").size(), 0);
    }

    private void arrays() {
        check.due("`new` outside a field's initialiser", find("\\bnew\\b").size() - all(FIELD_ARRAY, source).size(), 0);
        check.due("static fields that are not constants of int or long",
                find("(?m)^    \\w+ static (?!final (int|long) \\w+ = [^\\[\\]]*;$)[^()\n]*$").size(), 0);
    }

    private void methods() {
        Set<String> publicNames = new TreeSet<>();
        List<String> privateNames = new ArrayList<>();
        for (MatchResult method : all(METHOD, source)) {
            String name = method.group(4);
            bodies.put(name, method.group(6));
            (method.group(1).equals("public") ? publicNames : privateNames).add(name);
            check.due(name + ": at most 60 lines", method.group(6).lines().count() <= 60, true);
            check.due(name + ": at most 7 parameters", method.group(5).split(",").length <= 7, true);
        }
        check.due("public methods and the constructor", publicNames.size(), 17);
        check.due("all methods are seen", bodies.size(), find("(?m)^    (public|private)[^;=]*\\{$").size());
        check.due("private methods with a public name", privateNames.stream().anyMatch(publicNames::contains), false);
    }

    private void calls() {
        for (String name : bodies.keySet()) {
            check.due(name + ": calls at most six deep, none in a circle", depth(name, 1) <= 6, true);
            check.due(name + ": a call inside the arguments of a call", nestedCalls(bodies.get(name)), 0);
        }
    }

    private int depth(String name, int above) {
        int deepest = above;
        for (MatchResult call : all(CALL, bodies.get(name))) {
            if (above <= 6 && bodies.containsKey(call.group(1))) {
                deepest = Math.max(deepest, depth(call.group(1), above + 1));
            }
        }
        return deepest;
    }

    private int nestedCalls(String body) {
        int nested = 0;
        for (MatchResult call : all(CALL, body)) {
            if (!WORDS_BEFORE_BRACKET.contains(call.group(1))) {
                int end = call.end();
                for (int open = 1; open > 0; end++) {
                    open += body.charAt(end) == '(' ? 1 : body.charAt(end) == ')' ? -1 : 0;
                }
                nested += all(CALL, body.substring(call.end(), end)).size();
            }
        }
        return nested;
    }

    private void fields() {
        int fields = find("(?m)^    private (?!static)[^()\n]*;$").size();
        check.due("fields are seen", fields > 10, true);
        check.due("at most forty fields", fields <= 40, true);
    }

    private List<MatchResult> find(String pattern) {
        return all(Pattern.compile(pattern), source);
    }

    private static List<MatchResult> all(Pattern pattern, String text) {
        return pattern.matcher(text).results().toList();
    }
}
