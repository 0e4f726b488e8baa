import java.util.ArrayList;
import java.util.Collections;
import java.util.List;
import java.util.function.Function;
import java.util.function.Supplier;
import java.util.function.ToIntFunction;

/** Shows that a call changes nothing: whatever is called afterwards is answered as by an object without that call. */
final class Unchanged {
    private static final List<Function<RegApprox, List<String>>> COURSES = List.of(Unchanged::asked,
            Unchanged::askedFromTheEnd, Unchanged::built, Unchanged::entered, Unchanged::fed);
    private static final String[] WORDS = {"", "a", "b", "c", "aa", "ab", "ba", "bb", "ac", "cb", "aab", "aba", "abb",
        "acb", "baa", "bab", "bbb"};

    private Unchanged() {
    }

    /** In this state the call answers `due`, each time anew, and changes nothing. */
    static void by(Check check, String what, Supplier<RegApprox> state, ToIntFunction<RegApprox> call, int due) {
        for (Function<RegApprox, List<String>> course : COURSES) {
            RegApprox x = state.get();
            for (int time = 0; time < 3; time++) {
                check.due(what, call.applyAsInt(x), due);
            }
            List<String> with = course.apply(x);
            List<String> without = course.apply(state.get());
            int same = 0;
            while (same < with.size() && with.get(same).equals(without.get(same))) {
                same++;
            }
            String difference = same == with.size() ? "" : with.get(same) + " and without it " + without.get(same);
            check.due("after " + what + " " + difference, difference.isEmpty(), true);
        }
    }

    static void inEdit(Check check, String what, ToIntFunction<RegApprox> call, int due) {
        for (String[] rules : States.grammars()) {
            by(check, "EDIT: " + what, States.edit(rules), call, due);
        }
    }

    static void inBuilt(Check check, String what, ToIntFunction<RegApprox> call, int due) {
        for (String[] rules : States.grammars()) {
            for (String word : States.WORDS) {
                by(check, "BUILT: " + what, States.built(word, rules), call, due);
            }
        }
    }

    /** For a call whose answers are looked at elsewhere. */
    static void always(Check check, String what, ToIntFunction<RegApprox> call) {
        inEdit(check, what, x -> call.applyAsInt(x) * 0, 0);
        inBuilt(check, what, x -> call.applyAsInt(x) * 0, 0);
    }

    /** What every getter answers. Those with an argument out of range stand apart, since they are refused. */
    private static List<String> asked(RegApprox x) {
        List<String> told = new ArrayList<>();
        for (Function<RegApprox, String> getter : getters()) {
            told.add(getter.apply(x));
        }
        return told;
    }

    /** The other way round, so that each getter is asked once before each other one has been called. */
    private static List<String> askedFromTheEnd(RegApprox x) {
        List<Function<RegApprox, String>> getters = getters();
        Collections.reverse(getters);
        List<String> told = new ArrayList<>();
        for (Function<RegApprox, String> getter : getters) {
            told.add(getter.apply(x));
        }
        return told;
    }

    private static List<Function<RegApprox, String>> getters() {
        List<Function<RegApprox, String>> getters = new ArrayList<>();
        getters.add(x -> "ruleCount()=" + x.ruleCount());
        getters.add(x -> "selfEmbedding()=" + x.selfEmbedding());
        getters.add(x -> "transformedRuleCount()=" + x.transformedRuleCount());
        getters.add(x -> "inputLength()=" + x.inputLength());
        getters.add(x -> "setOf of 0, 1, 2=" + x.setOf(0) + x.setOf(1) + x.setOf(2));
        getters.add(x -> "setKind of 0, 1, 2=" + x.setKind(0) + x.setKind(1) + x.setKind(2));
        getters.add(x -> "setOf of -1, 6=" + x.setOf(-1) + x.setOf(6));
        getters.add(x -> "setKind of -1, 6=" + x.setKind(-1) + x.setKind(6));
        getters.add(x -> "approxAccepts()=" + x.approxAccepts());
        getters.add(x -> "grammarAccepts()=" + x.grammarAccepts());
        getters.add(x -> "approxLive()=" + x.approxLive());
        getters.add(x -> "nextMask()=" + x.nextMask());
        return getters;
    }

    private static List<String> built(RegApprox x) {
        List<String> told = new ArrayList<>();
        told.add("build()=" + x.build());
        told.addAll(asked(x));
        told.addAll(shortWords(x));
        return told;
    }

    /** More symbols and rules than go in, so that the answers tell how many there were. */
    private static List<String> entered(RegApprox x) {
        List<String> told = new ArrayList<>();
        for (int rule = 0; rule <= 8; rule++) {
            for (char symbol : "aAbba".toCharArray()) {
                told.add(symbol + "=" + Given.append(x, symbol));
            }
            told.add("rule(0)=" + x.rule(0));
        }
        told.addAll(built(x));
        return told;
    }

    /** More tokens than go in, so that the answers tell how many there were. */
    private static List<String> fed(RegApprox x) {
        List<String> told = new ArrayList<>();
        for (int i = 0; i <= 12; i++) {
            told.add("feed(" + i % 2 + ")=" + x.feed(i % 2));
            told.add("w: " + Given.answers(x));
        }
        told.addAll(shortWords(x));
        told.addAll(asked(x));
        return told;
    }

    private static List<String> shortWords(RegApprox x) {
        List<String> told = new ArrayList<>();
        for (String word : WORDS) {
            x.clearInput();
            for (char token : word.toCharArray()) {
                x.feed(token - 'a');
            }
            told.add("w=" + word + " inputLength()=" + x.inputLength() + ": " + Given.answers(x));
        }
        return told;
    }
}
