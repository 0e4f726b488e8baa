import java.util.function.IntUnaryOperator;

/** "Phases and general behaviour", sentence by sentence. */
public final class PhasesTest {
    private static final int PHASE = RegApprox.ERR_PHASE;
    private static final int RANGE = RegApprox.ERR_RANGE;
    private static final int FULL = RegApprox.ERR_FULL;
    private static final int NO_RULE = RegApprox.ERR_NO_RULE;

    private static final Check CHECK = new Check("PhasesTest");

    public static void main(String[] args) {
        freshIsEdit();
        neverBackToEdit();
        refusedInEdit();
        refusedInBuilt();
        refusedAmongTaken();
        getters();
        anyInt();
        CHECK.end();
    }

    private static void freshIsEdit() {
        CHECK.says("A fresh object is in phase EDIT.");
        inEdit(new RegApprox(3, 3));
        inEdit(new RegApprox(Integer.MIN_VALUE, Integer.MAX_VALUE));
        inEdit(States.edit("A->aAb", "A->bB", "B->a").get());
    }

    private static void inEdit(RegApprox x) {
        CHECK.due("EDIT: setOf(0)", x.setOf(0), PHASE);
        CHECK.due("EDIT: setKind(0)", x.setKind(0), PHASE);
        CHECK.due("EDIT: transformedRuleCount()", x.transformedRuleCount(), PHASE);
        CHECK.due("EDIT: feed(0)", x.feed(0), PHASE);
        CHECK.due("EDIT: clearInput()", x.clearInput(), PHASE);
        CHECK.due("EDIT: selfEmbedding()", x.selfEmbedding(), false);
        CHECK.word(x, "EDIT", "- - - -1");
        CHECK.due("EDIT: rule(0) >= 0", x.rule(0) >= 0, true);
    }

    private static void neverBackToEdit() {
        CHECK.says("`build()` moves it to phase BUILT, and it never returns to EDIT.");
        for (String[] rules : States.grammars()) {
            RegApprox x = States.edit(rules).get();
            CHECK.due("build() > 0", x.build() > 0, true);
            for (int i = 0; i < 15; i++) {
                inBuilt(x);
                x.feed(i % 3);
            }
            x.clearInput();
            inBuilt(x);
            x.clearInput();
            inBuilt(x);
        }
    }

    private static void inBuilt(RegApprox x) {
        CHECK.due("BUILT: build()", x.build(), PHASE);
        CHECK.due("BUILT: rule(0)", x.rule(0), PHASE);
        CHECK.due("BUILT: terminal(0)", x.terminal(0), PHASE);
        CHECK.due("BUILT: nonterminal(0)", x.nonterminal(0), PHASE);
        CHECK.due("BUILT: setOf(0)", x.setOf(0), 0);
        CHECK.due("BUILT: setKind(0) >= 0", x.setKind(0) >= 0, true);
        CHECK.due("BUILT: transformedRuleCount() >= 0", x.transformedRuleCount() >= 0, true);
        CHECK.due("BUILT: nextMask() >= 0", x.nextMask() >= 0, true);
    }

    private static void refusedInEdit() {
        CHECK.says("A call that is refused (answers one of the `ERR_` codes) changes nothing.");
        Unchanged.inEdit(CHECK, "rule(3)", x -> x.rule(3), RANGE);
        Unchanged.inEdit(CHECK, "setOf(0)", x -> x.setOf(0), PHASE);
        Unchanged.inEdit(CHECK, "setKind(3)", x -> x.setKind(3), PHASE);
        Unchanged.inEdit(CHECK, "transformedRuleCount()", x -> x.transformedRuleCount(), PHASE);
        Unchanged.inEdit(CHECK, "feed(0)", x -> x.feed(0), PHASE);
        Unchanged.inEdit(CHECK, "feed(2)", x -> x.feed(2), PHASE);
        Unchanged.inEdit(CHECK, "clearInput()", x -> x.clearInput(), PHASE);
        Unchanged.inEdit(CHECK, "nextMask()", x -> x.nextMask(), PHASE);
        Unchanged.by(CHECK, "terminal(0)", States.edit(), x -> x.terminal(0), NO_RULE);
        Unchanged.by(CHECK, "nonterminal(0)", States.edit(), x -> x.nonterminal(0), NO_RULE);
        for (String[] rules : States.ROOM) {
            Unchanged.by(CHECK, "terminal(2)", States.edit(rules), x -> x.terminal(2), RANGE);
            Unchanged.by(CHECK, "nonterminal(-1)", States.edit(rules), x -> x.nonterminal(-1), RANGE);
        }
        for (String[] rules : States.SYMBOLS_FULL) {
            Unchanged.by(CHECK, "a thirteenth terminal(0)", States.edit(rules), x -> x.terminal(0), FULL);
            Unchanged.by(CHECK, "a thirteenth nonterminal(0)", States.edit(rules), x -> x.nonterminal(0), FULL);
        }
        for (String[] rules : States.RIGHT_SIDE_FULL) {
            Unchanged.by(CHECK, "a fifth terminal(0)", States.edit(rules), x -> x.terminal(0), FULL);
            Unchanged.by(CHECK, "a fifth nonterminal(0)", States.edit(rules), x -> x.nonterminal(0), FULL);
        }
        for (String[] rules : States.EIGHT_RULES) {
            Unchanged.by(CHECK, "a ninth rule(0)", States.edit(rules), x -> x.rule(0), FULL);
        }
    }

    private static void refusedInBuilt() {
        CHECK.says("A call that is refused (answers one of the `ERR_` codes) changes nothing.");
        Unchanged.inBuilt(CHECK, "rule(0)", x -> x.rule(0), PHASE);
        Unchanged.inBuilt(CHECK, "terminal(0)", x -> x.terminal(0), PHASE);
        Unchanged.inBuilt(CHECK, "nonterminal(0)", x -> x.nonterminal(0), PHASE);
        Unchanged.inBuilt(CHECK, "build()", x -> x.build(), PHASE);
        Unchanged.inBuilt(CHECK, "setOf(3)", x -> x.setOf(3), RANGE);
        Unchanged.inBuilt(CHECK, "setKind(-1)", x -> x.setKind(-1), RANGE);
        Unchanged.inBuilt(CHECK, "feed(2)", x -> x.feed(2), RANGE);
        for (String[] rules : States.grammars()) {
            Unchanged.by(CHECK, "w full: feed(0)", States.built("aaaaaabbbbbb", rules), x -> x.feed(0), FULL);
        }
    }

    /** A whole run with every kind of refused call before each taken one. */
    private static void refusedAmongTaken() {
        CHECK.says("A call that is refused (answers one of the `ERR_` codes) changes nothing.");
        RegApprox x = new RegApprox(2, 3);
        refusedEverywhere(x);
        for (String rule : new String[] {"A->aAb", "A->Bc", "B->"}) {
            CHECK.due("rule >= 0", x.rule(rule.charAt(0) - 'A') >= 0, true);
            int length = 0;
            for (char symbol : rule.substring(3).toCharArray()) {
                refusedEverywhere(x);
                length++;
                CHECK.due("a symbol of " + rule, Given.append(x, symbol), length);
            }
        }
        refusedEverywhere(x);
        CHECK.due("build()", x.build(), 2);
        String[] due = {"- - live ac", "- - live ac", "- - live ac", "approx - live b", "approx - live b",
            "approx grammar live b"};
        for (int length = 0; length <= 5; length++) {
            refusedEverywhere(x);
            x.rule(0);
            x.terminal(0);
            x.nonterminal(0);
            x.build();
            CHECK.word(x, "aacbb".substring(0, length), due[length]);
            if (length < 5) {
                CHECK.due("feed", x.feed("aacbb".charAt(length) - 'a'), length + 1);
            }
        }
        CHECK.due("ruleCount()", x.ruleCount(), 3);
        CHECK.due("transformedRuleCount()", x.transformedRuleCount(), 2 + 1 + 1 + 1);
    }

    private static void refusedEverywhere(RegApprox x) {
        for (int far : new int[] {Integer.MIN_VALUE, -1, 3, 6, Integer.MAX_VALUE}) {
            x.rule(far);
            x.terminal(far);
            x.nonterminal(far);
            x.setOf(far);
            x.setKind(far);
            x.feed(far);
        }
    }

    private static void getters() {
        CHECK.says("Getters never change anything.");
        Unchanged.always(CHECK, "all getters", PhasesTest::askAll);
        Unchanged.always(CHECK, "ruleCount()", x -> x.ruleCount());
        Unchanged.always(CHECK, "setOf(0)", x -> x.setOf(0));
        Unchanged.always(CHECK, "setKind(0)", x -> x.setKind(0));
        Unchanged.always(CHECK, "selfEmbedding()", x -> x.selfEmbedding() ? 1 : 0);
        Unchanged.always(CHECK, "transformedRuleCount()", x -> x.transformedRuleCount());
        Unchanged.always(CHECK, "inputLength()", x -> x.inputLength());
        Unchanged.always(CHECK, "approxAccepts()", x -> x.approxAccepts() ? 1 : 0);
        Unchanged.always(CHECK, "grammarAccepts()", x -> x.grammarAccepts() ? 1 : 0);
        Unchanged.always(CHECK, "approxLive()", x -> x.approxLive() ? 1 : 0);
        Unchanged.always(CHECK, "nextMask()", x -> x.nextMask());
    }

    /** The answers are looked at elsewhere; here they only have to leave no trace. */
    private static int askAll(RegApprox x) {
        for (int a = -1; a <= 3; a++) {
            x.setOf(a);
            x.setKind(a);
        }
        x.ruleCount();
        x.selfEmbedding();
        x.transformedRuleCount();
        x.inputLength();
        x.nextMask();
        x.approxLive();
        x.grammarAccepts();
        x.approxAccepts();
        return 0;
    }

    private static void anyInt() {
        CHECK.says("Any int is accepted as an argument, including negative values and the extremes `Integer.MIN_VALUE` "
                + "and `Integer.MAX_VALUE`, and the answer is always the one stated here; no argument causes an exception "
                + "or an arithmetic wrap-around.");
        RegApprox none = States.edit().get();
        far("no rule: rule", none::rule, RANGE);
        far("no rule: terminal", none::terminal, NO_RULE);
        far("no rule: nonterminal", none::nonterminal, NO_RULE);
        for (String[] rules : States.grammars().subList(1, States.grammars().size())) {
            RegApprox x = States.edit(rules).get();
            far("rule", x::rule, RANGE);
            far("terminal", x::terminal, RANGE);
            far("nonterminal", x::nonterminal, RANGE);
            far("EDIT: setOf", x::setOf, PHASE);
            far("EDIT: setKind", x::setKind, PHASE);
            far("EDIT: feed", x::feed, PHASE);
        }
        for (String word : States.WORDS) {
            RegApprox x = States.built(word, "A->aAb", "A->bB", "B->a").get();
            far("BUILT: rule", x::rule, PHASE);
            far("BUILT: terminal", x::terminal, PHASE);
            far("BUILT: nonterminal", x::nonterminal, PHASE);
            far("BUILT: setOf", x::setOf, RANGE);
            far("BUILT: setKind", x::setKind, RANGE);
            far("BUILT: feed", x::feed, RANGE);
            CHECK.due("inputLength() afterwards", x.inputLength(), word.length());
        }
    }

    private static void far(String what, IntUnaryOperator call, int due) {
        for (int value : Given.FAR) {
            CHECK.due(what + "(" + value + ")", call.applyAsInt(value), due);
        }
        // Values that are in range once cut to one of their bytes or shifted by.
        for (int bit = 3; bit < 32; bit++) {
            for (int value = 0; value < 3; value++) {
                CHECK.due(what + "(" + ((1 << bit) + value) + ")", call.applyAsInt((1 << bit) + value), due);
            }
        }
    }
}
