import java.util.ArrayList;
import java.util.List;
import java.util.function.Function;
import java.util.function.Supplier;
import java.util.function.ToIntFunction;

/** Shows that a call changes nothing: whatever is called afterwards is answered as by an object without that call. */
final class Unchanged {
    private static final List<Function<RegApprox, List<String>>> COURSES =
            List.of(Unchanged::asked, Unchanged::built, Unchanged::entered, Unchanged::fed);
    private static final List<String> WORDS = words();

    private Unchanged() {
    }

    static void by(Check check, String what, Supplier<RegApprox> state, ToIntFunction<RegApprox> call, int due) {
        for (Function<RegApprox, List<String>> course : COURSES) {
            RegApprox x = state.get();
            for (int time = 0; time < 3; time++) {
                check.due(what, call.applyAsInt(x), due);
            }
            List<String> with = course.apply(x);
            List<String> without = course.apply(state.get());
            int same = 0;
            while (same < with.size() && with.get(same).equals(without.get(same))) {
                same++;
            }
            String difference = same == with.size() ? "" : with.get(same) + " and without it " + without.get(same);
            check.due("after " + what + " " + difference, difference.isEmpty(), true);
        }
    }

    /** What every getter answers, with arguments in range and out of it. */
    private static List<String> asked(RegApprox x) {
        List<String> told = new ArrayList<>();
        told.add("ruleCount()=" + x.ruleCount());
        for (int a = -1; a <= 6; a++) {
            told.add("setOf(" + a + ")=" + x.setOf(a));
            told.add("setKind(" + a + ")=" + x.setKind(a));
        }
        told.add("selfEmbedding()=" + x.selfEmbedding());
        told.add("transformedRuleCount()=" + x.transformedRuleCount());
        told.add("inputLength()=" + x.inputLength());
        told.add("w: " + Given.answers(x));
        return told;
    }

    private static List<String> built(RegApprox x) {
        List<String> told = new ArrayList<>();
        told.add("build()=" + x.build());
        told.addAll(asked(x));
        told.addAll(shortWords(x));
        return told;
    }

    /** More symbols and rules than go in, so that the answers tell how many there were. */
    private static List<String> entered(RegApprox x) {
        List<String> told = new ArrayList<>();
        for (int rule = 0; rule <= 8; rule++) {
            for (char symbol : "aAbba".toCharArray()) {
                told.add(symbol + "=" + Given.append(x, symbol));
            }
            told.add("rule(0)=" + x.rule(0));
        }
        told.addAll(built(x));
        return told;
    }

    /** More tokens than go in, so that the answers tell how many there were. */
    private static List<String> fed(RegApprox x) {
        List<String> told = new ArrayList<>();
        for (int i = 0; i <= 12; i++) {
            told.add("feed(" + i % 2 + ")=" + x.feed(i % 2));
            told.add("w: " + Given.answers(x));
        }
        told.addAll(shortWords(x));
        told.addAll(asked(x));
        return told;
    }

    private static List<String> shortWords(RegApprox x) {
        List<String> told = new ArrayList<>();
        for (String word : WORDS) {
            x.clearInput();
            for (char token : word.toCharArray()) {
                x.feed(token - 'a');
            }
            told.add("w=" + word + " inputLength()=" + x.inputLength() + ": " + Given.answers(x));
        }
        return told;
    }

    private static List<String> words() {
        List<String> words = new ArrayList<>(List.of(""));
        for (int i = 0; words.get(i).length() < 3; i++) {
            for (char token : "abc".toCharArray()) {
                words.add(words.get(i) + token);
            }
        }
        return words;
    }
}
