import java.util.List;
import java.util.function.Supplier;
import java.util.stream.Stream;

/** Promises 3 and 4, sentence by sentence: what is said of both is tested of both. */
public final class AppendTest {
    private static final int PHASE = RegApprox.ERR_PHASE;
    private static final int RANGE = RegApprox.ERR_RANGE;
    private static final int FULL = RegApprox.ERR_FULL;
    private static final int NO_RULE = RegApprox.ERR_NO_RULE;

    private static final Check CHECK = new Check("AppendTest");

    private final boolean terminals;
    private final int bound;
    private final String name;

    private AppendTest(boolean terminals) {
        this.terminals = terminals;
        bound = terminals ? States.T : States.N;
        name = terminals ? "terminal" : "nonterminal";
    }

    public static void main(String[] args) {
        atTheEnd();
        for (boolean terminals : new boolean[] {true, false}) {
            AppendTest test = new AppendTest(terminals);
            test.inPhaseBuilt();
            test.withoutRule();
            test.tooSmall();
            test.tooLarge();
            test.rightSideFull();
            test.symbolsFull();
            test.bothFull();
            test.phaseBeforeNoRule();
            test.phaseBeforeRange();
            test.phaseBeforeFull();
            test.noRuleBeforeRange();
            test.rangeBeforeFull();
            test.answersTheLength();
            test.refusedForNoRuleChangesNothing();
            test.refusedForRangeChangesNothing();
            test.refusedForFullChangesNothing();
            test.refusedInBuiltChangesNothing();
            test.refusedSymbolsAreNotCounted();
        }
        boundsAreTheirOwn();
        onlyTheCurrentRuleChanges();
        leftSideStays();
        CHECK.end();
    }

    private int append(RegApprox x, int value) {
        return terminals ? x.terminal(value) : x.nonterminal(value);
    }

    private String call(int value) {
        return name + "(" + value + ")";
    }

    private void answers(String where, RegApprox x, int value, int due) {
        CHECK.due(where + call(value), append(x, value), due);
    }

    private void unchanged(String where, Supplier<RegApprox> state, int value, int due) {
        Unchanged.by(CHECK, where + call(value), state, x -> append(x, value), due);
    }

    private static void atTheEnd() {
        CHECK.says("`terminal(int t)` appends terminal t at the end of the current rule's right side.");
        RegApprox x = Given.built(1, 4, "A->abcd");
        CHECK.word(Given.word(x, "abc"), "A->abcd: abc", "- - live d");
        CHECK.word(Given.word(x, "abcd"), "A->abcd: abcd", "approx grammar live 0");
        CHECK.word(Given.word(x, "dcba"), "A->abcd: dcba", "- - - 0");
        CHECK.says("`nonterminal(int a)` appends nonterminal a at the end of the current rule's right side.");
        RegApprox y = Given.built(4, 3, "A->BCD", "B->a", "C->b", "D->c");
        CHECK.word(Given.word(y, "abc"), "A->BCD: abc", "approx grammar live 0");
        CHECK.word(Given.word(y, "c"), "A->BCD: c", "- - - 0");
    }

    private void inPhaseBuilt() {
        CHECK.says("1. phase BUILT: answers `ERR_PHASE`.");
        RegApprox x = States.built("", "A->a").get();
        for (int value = 0; value < bound; value++) {
            answers("BUILT: ", x, value, PHASE);
        }
        x.feed(0);
        answers("BUILT, w not empty: ", x, 0, PHASE);
        x.clearInput();
        answers("BUILT, w cleared: ", x, 0, PHASE);
    }

    private void withoutRule() {
        CHECK.says("2. no rule has been started: answers `ERR_NO_RULE`.");
        RegApprox x = States.edit().get();
        for (int value = 0; value < bound; value++) {
            answers("no rule: ", x, value, NO_RULE);
        }
        x.rule(States.N);
        answers("a refused rule alone: ", x, 0, NO_RULE);
        x.rule(States.N - 1);
        answers("a rule: ", x, 0, 1);
    }

    private void tooSmall() {
        CHECK.says(terminals ? "3. t < 0 or t >= T: answers `ERR_RANGE`."
                : "condition 3 is: a < 0 or a >= N, which answers `ERR_RANGE`.");
        RegApprox x = States.edit("A->").get();
        answers("", x, -1, RANGE);
        answers("", x, Integer.MIN_VALUE, RANGE);
        answers("", x, 0, 1);
        answers("", x, -1, RANGE);
    }

    private void tooLarge() {
        CHECK.says(terminals ? "3. t < 0 or t >= T: answers `ERR_RANGE`."
                : "condition 3 is: a < 0 or a >= N, which answers `ERR_RANGE`.");
        for (int size = 1; size <= (terminals ? 4 : 6); size++) {
            RegApprox x = terminals ? new RegApprox(6, size) : new RegApprox(size, 4);
            x.rule(0);
            for (int value = size; value <= 8; value++) {
                answers("of " + size + " ", x, value, RANGE);
            }
            answers("", x, Integer.MAX_VALUE, RANGE);
            answers("of " + size + " ", x, size - 1, 1);
        }
    }

    private static void boundsAreTheirOwn() {
        CHECK.says("except that condition 3 is: a < 0 or a >= N, which answers `ERR_RANGE`.");
        RegApprox wide = Given.entered(6, 1, "A->");
        CHECK.due("terminal(1) of 1 beside 6 nonterminals", wide.terminal(1), RANGE);
        CHECK.due("nonterminal(5) of 6 beside 1 terminal", wide.nonterminal(5), 1);
        RegApprox narrow = Given.entered(1, 4, "A->");
        CHECK.due("nonterminal(1) of 1 beside 4 terminals", narrow.nonterminal(1), RANGE);
        CHECK.due("terminal(3) of 4 beside 1 nonterminal", narrow.terminal(3), 1);
    }

    private void rightSideFull() {
        CHECK.says("4. the current rule already has `MAX_RHS` symbols");
        RegApprox x = States.edit("B->b", "A->aBa").get();
        answers("a fourth, ", x, 0, 4);
        for (int value = 0; value < bound; value++) {
            answers("a fifth, ", x, value, FULL);
        }
        x.rule(0);
        answers("in the next rule, ", x, 0, 1);
    }

    private void symbolsFull() {
        CHECK.says("or all rules together already have `MAX_SYMBOLS` symbols: answers `ERR_FULL`.");
        RegApprox eleven = States.edit("A->aaaa", "B->bbbb", "A->aB", "C->b").get();
        eleven.rule(0);
        answers("a twelfth, ", eleven, 0, 1);
        for (int value = 0; value < bound; value++) {
            answers("a thirteenth, ", eleven, value, FULL);
        }
        answers("a thirteenth, to an empty rule, ", States.edit(States.SYMBOLS_FULL[0]).get(), 0, FULL);
    }

    private void bothFull() {
        CHECK.says("4. the current rule already has `MAX_RHS` symbols, or all rules together already have `MAX_SYMBOLS` "
                + "symbols: answers `ERR_FULL`.");
        RegApprox x = States.edit(States.BOTH_FULL[0]).get();
        answers("a fifth and thirteenth, ", x, 0, FULL);
        CHECK.due("rule(0)", x.rule(0), 3);
        answers("a first and thirteenth, ", x, 0, FULL);
    }

    private void phaseBeforeNoRule() {
        order();
        RegApprox x = States.built("").get();
        answers("BUILT, no rule: ", x, 0, PHASE);
        answers("BUILT, no rule: ", x, -1, PHASE);
        answers("BUILT, no rule: ", x, bound, PHASE);
    }

    private void phaseBeforeRange() {
        order();
        RegApprox x = States.built("", "A->a").get();
        for (int far : Given.FAR) {
            answers("BUILT: ", x, far, PHASE);
        }
        answers("BUILT: ", x, bound, PHASE);
    }

    private void phaseBeforeFull() {
        order();
        answers("BUILT, right side full: ", States.built("", States.RIGHT_SIDE_FULL[0]).get(), 0, PHASE);
        answers("BUILT, symbols full: ", States.built("", States.SYMBOLS_FULL[0]).get(), 0, PHASE);
        answers("BUILT, both full: ", States.built("", States.BOTH_FULL[0]).get(), 0, PHASE);
        answers("BUILT, both full: ", States.built("", States.BOTH_FULL[0]).get(), bound, PHASE);
    }

    private void noRuleBeforeRange() {
        order();
        RegApprox x = States.edit().get();
        for (int far : Given.FAR) {
            answers("no rule: ", x, far, NO_RULE);
        }
        answers("no rule: ", x, bound, NO_RULE);
    }

    private void rangeBeforeFull() {
        order();
        for (String[] rules : full()) {
            RegApprox x = States.edit(rules).get();
            answers("full: ", x, -1, RANGE);
            answers("full: ", x, bound, RANGE);
            for (int far : Given.FAR) {
                answers("full: ", x, far, RANGE);
            }
            answers("full: ", x, bound - 1, FULL);
        }
    }

    private void order() {
        CHECK.says(terminals ? "The conditions are examined in this order:"
                : "The conditions and answers are exactly those of `terminal(t)` in Promise 3, in the same order");
    }

    private void answersTheLength() {
        CHECK.says(terminals ? "the call answers the new length of the current right side (1..4)."
                : "On success it answers the new length of the current right side (1..4).");
        RegApprox x = States.edit().get();
        for (int rule = 0; rule < 3; rule++) {
            x.rule(rule);
            for (int length = 1; length <= 4; length++) {
                answers("rule " + rule + ": ", x, length % bound, length);
            }
        }
    }

    private static List<String[]> full() {
        return Stream.of(States.RIGHT_SIDE_FULL, States.SYMBOLS_FULL, States.BOTH_FULL).flatMap(Stream::of).toList();
    }

    private void refusedForNoRuleChangesNothing() {
        refusedChangesNothing();
        for (int value : new int[] {-1, 0, bound - 1, bound}) {
            unchanged("no rule: ", States.edit(), value, NO_RULE);
        }
    }

    private void refusedForRangeChangesNothing() {
        refusedChangesNothing();
        for (String[] rules : States.grammars()) {
            for (int value : new int[] {Integer.MIN_VALUE, -1, bound, Integer.MAX_VALUE}) {
                unchanged("", States.edit(rules), value, rules.length == 0 ? NO_RULE : RANGE);
            }
        }
    }

    private void refusedForFullChangesNothing() {
        refusedChangesNothing();
        for (String[] rules : full()) {
            for (int value = 0; value < bound; value++) {
                unchanged("full: ", States.edit(rules), value, FULL);
            }
        }
        String[] eightRules = States.EIGHT_RULES[3];
        unchanged("twelve symbols in eight rules: ", States.edit(eightRules), 0, FULL);
    }

    private void refusedInBuiltChangesNothing() {
        refusedChangesNothing();
        for (int value : new int[] {0, bound - 1, bound}) {
            Unchanged.inBuilt(CHECK, call(value), x -> append(x, value), PHASE);
        }
    }

    private void refusedSymbolsAreNotCounted() {
        refusedChangesNothing();
        RegApprox x = States.edit().get();
        for (int rule = 0; rule < 3; rule++) {
            answers("before rule " + rule + ", ", x, 0, rule == 0 ? NO_RULE : FULL);
            x.rule(0);
            for (int length = 1; length <= 4; length++) {
                answers("out of range, ", x, bound, RANGE);
                answers("one of twelve, ", x, 0, length);
            }
            answers("a fifth, ", x, 0, FULL);
        }
    }

    private void refusedChangesNothing() {
        CHECK.says(terminals ? "A refused call changes nothing."
                : "Only the current rule changes, and a refused call changes nothing.");
    }

    private static void onlyTheCurrentRuleChanges() {
        CHECK.says("Only the current rule changes; closed rules, the rule count and the current rule's left side stay as "
                + "they were.");
        RegApprox x = Given.entered(2, 3, "A->a", "A->", "B->");
        CHECK.due("terminal(1)", x.terminal(1), 1);
        CHECK.due("ruleCount()", x.ruleCount(), 3);
        CHECK.due("nonterminal(1)", x.nonterminal(1), 2);
        CHECK.due("ruleCount()", x.ruleCount(), 3);
        CHECK.due("build()", x.build(), 2);
        CHECK.due("setKind(0)", x.setKind(0), RegApprox.KIND_PLAIN);
        CHECK.due("setKind(1)", x.setKind(1), RegApprox.KIND_RIGHT);
        CHECK.word(Given.word(x, ""), "A->a | , B->bB: empty", "approx grammar live a");
        CHECK.word(Given.word(x, "a"), "A->a | , B->bB: a", "approx grammar live 0");
    }

    private static void leftSideStays() {
        CHECK.says("Only the current rule changes; closed rules, the rule count and the current rule's left side stay as "
                + "they were.");
        for (int lhs = 0; lhs < 3; lhs++) {
            RegApprox x = new RegApprox(3, 2);
            x.rule(lhs);
            for (int a = 0; a < 3; a++) {
                x.nonterminal(a);
            }
            CHECK.due("build()", x.build(), 3);
            for (int a = 0; a < 3; a++) {
                CHECK.due("the one rule is of " + lhs + ": setKind(" + a + ") > 0", x.setKind(a) > 0, a == lhs);
            }
        }
    }
}
