/** Promises 2 and 5, sentence by sentence. */
public final class EntryTest {
    private static final int PHASE = RegApprox.ERR_PHASE;
    private static final int RANGE = RegApprox.ERR_RANGE;
    private static final int FULL = RegApprox.ERR_FULL;

    private static final String[] EIGHT = States.EIGHT_RULES[0];

    private static final Check CHECK = new Check("EntryTest");

    public static void main(String[] args) {
        startsAnEmptyRule();
        becomesTheCurrentRule();
        formerRuleIsClosed();
        inPhaseBuilt();
        leftSideTooSmall();
        leftSideTooLarge();
        rulesFull();
        phaseBeforeRange();
        phaseBeforeFull();
        rangeBeforeFull();
        answersTheIndex();
        refusedForRangeChangesNothing();
        refusedForFullChangesNothing();
        refusedInBuiltChangesNothing();
        refusedKeepsTheCurrentRuleOpen();
        refusedWithoutCurrentRule();
        symbolCountStays();
        countInEveryPhase();
        refusedRulesAreNotCounted();
        countStaysAfterBuild();
        countChangesNothing();
        CHECK.end();
    }

    // ---- Promise 2 ----

    private static void startsAnEmptyRule() {
        CHECK.says("`rule(int lhs)` starts a new rule lhs -> (empty), which becomes the current rule.");
        for (int lhs = 0; lhs < 6; lhs++) {
            RegApprox x = new RegApprox(6, 1);
            CHECK.due("rule(" + lhs + ")", x.rule(lhs), 0);
            x.build();
            CHECK.word(x, "one empty rule of " + lhs, lhs == 0 ? "approx grammar live 0" : "- - - 0");
        }
    }

    private static void becomesTheCurrentRule() {
        CHECK.says("`rule(int lhs)` starts a new rule lhs -> (empty), which becomes the current rule.");
        RegApprox x = Given.entered(2, 2, "B->b", "A->ab");
        CHECK.due("rule(0)", x.rule(0), 2);
        CHECK.due("nonterminal(1)", x.nonterminal(1), 1);
        CHECK.due("terminal(0)", x.terminal(0), 2);
        x.build();
        CHECK.word(Given.word(x, "ba"), "A->ab | Ba, B->b: ba", "approx grammar live 0");
        CHECK.word(Given.word(x, ""), "A->ab | Ba, B->b: empty", "- - live ab");
    }

    private static void formerRuleIsClosed() {
        CHECK.says("The former current rule, if any, is closed for good and keeps its symbols.");
        RegApprox x = Given.entered(2, 3, "A->ab", "B->c");
        CHECK.due("a third symbol for B", x.terminal(2), 2);
        CHECK.due("rule(0), another one", x.rule(0), 2);
        CHECK.due("its first symbol", x.terminal(2), 1);
        CHECK.due("rule(1), another one", x.rule(1), 3);
        CHECK.due("its first symbol", x.terminal(0), 1);
        x.build();
        CHECK.word(Given.word(x, ""), "A->ab | c: empty", "- - live ac");
        CHECK.word(Given.word(x, "a"), "A->ab | c: a", "- - live b");
        CHECK.word(Given.word(x, "ab"), "A->ab | c: ab", "approx grammar live 0");
        CHECK.word(Given.word(x, "c"), "A->ab | c: c", "approx grammar live 0");
    }

    private static void inPhaseBuilt() {
        CHECK.says("1. phase BUILT: answers `ERR_PHASE`.");
        RegApprox x = new RegApprox(3, 2);
        x.build();
        for (int lhs = 0; lhs < 3; lhs++) {
            CHECK.due("BUILT: rule(" + lhs + ")", x.rule(lhs), PHASE);
        }
        x.feed(0);
        CHECK.due("BUILT, w not empty: rule(0)", x.rule(0), PHASE);
        x.clearInput();
        CHECK.due("BUILT, w cleared: rule(0)", x.rule(0), PHASE);
    }

    private static void leftSideTooSmall() {
        CHECK.says("2. lhs < 0 or lhs >= N: answers `ERR_RANGE`.");
        for (int n = 1; n <= 6; n++) {
            RegApprox x = new RegApprox(n, 4);
            CHECK.due("rule(-1) of " + n, x.rule(-1), RANGE);
            CHECK.due("rule(0) of " + n, x.rule(0), 0);
        }
    }

    private static void leftSideTooLarge() {
        CHECK.says("2. lhs < 0 or lhs >= N: answers `ERR_RANGE`.");
        for (int n = 1; n <= 6; n++) {
            RegApprox x = new RegApprox(n, 4);
            for (int lhs = n; lhs <= 8; lhs++) {
                CHECK.due("rule(" + lhs + ") of " + n, x.rule(lhs), RANGE);
            }
            CHECK.due("rule(N-1) of " + n, x.rule(n - 1), 0);
        }
    }

    private static void rulesFull() {
        CHECK.says("3. `ruleCount()` == `MAX_RULES`: answers `ERR_FULL`.");
        RegApprox x = new RegApprox(3, 2);
        for (int i = 0; i < 7; i++) {
            x.rule(i % 3);
        }
        CHECK.due("ruleCount() == 7: rule(1)", x.rule(1), 7);
        for (int lhs = 0; lhs < 3; lhs++) {
            CHECK.due("ruleCount() == 8: rule(" + lhs + ")", x.rule(lhs), FULL);
        }
        CHECK.due("ruleCount()", x.ruleCount(), 8);
    }

    private static void phaseBeforeRange() {
        CHECK.says("The conditions are examined in this order, and the first that holds decides the answer:");
        RegApprox x = States.built("", "A->a").get();
        CHECK.due("BUILT: rule(-1)", x.rule(-1), PHASE);
        CHECK.due("BUILT: rule(3) of 3", x.rule(3), PHASE);
        for (int far : Given.FAR) {
            CHECK.due("BUILT: rule(" + far + ")", x.rule(far), PHASE);
        }
    }

    private static void phaseBeforeFull() {
        CHECK.says("The conditions are examined in this order, and the first that holds decides the answer:");
        RegApprox x = States.built("", EIGHT).get();
        CHECK.due("BUILT, 8 rules: rule(0)", x.rule(0), PHASE);
        CHECK.due("BUILT, 8 rules: rule(3) of 3", x.rule(3), PHASE);
        CHECK.due("BUILT, 8 rules: rule(-1)", x.rule(-1), PHASE);
    }

    private static void rangeBeforeFull() {
        CHECK.says("The conditions are examined in this order, and the first that holds decides the answer:");
        RegApprox x = States.edit(EIGHT).get();
        CHECK.due("8 rules: rule(-1)", x.rule(-1), RANGE);
        CHECK.due("8 rules: rule(3) of 3", x.rule(3), RANGE);
        for (int far : Given.FAR) {
            CHECK.due("8 rules: rule(" + far + ")", x.rule(far), RANGE);
        }
        CHECK.due("8 rules: rule(2) of 3", x.rule(2), FULL);
    }

    private static void answersTheIndex() {
        CHECK.says("Otherwise the rule is added, and the call answers its index, which is the `ruleCount()` before the "
                + "call (0..7); `ruleCount()` grows by one.");
        RegApprox x = new RegApprox(3, 2);
        for (int i = 0; i < 8; i++) {
            CHECK.due("ruleCount() before", x.ruleCount(), i);
            CHECK.due("rule(" + (8 - i) % 3 + ")", x.rule((8 - i) % 3), i);
            CHECK.due("ruleCount() after", x.ruleCount(), i + 1);
            x.terminal(i % 2);
        }
    }

    private static void refusedForRangeChangesNothing() {
        CHECK.says("When the call is refused nothing changes:");
        for (int lhs : new int[] {Integer.MIN_VALUE, -1, 3, Integer.MAX_VALUE}) {
            Unchanged.inEdit(CHECK, "rule(" + lhs + ")", x -> x.rule(lhs), RANGE);
        }
    }

    private static void refusedForFullChangesNothing() {
        CHECK.says("When the call is refused nothing changes:");
        for (String[] rules : States.EIGHT_RULES) {
            for (int lhs = 0; lhs < 3; lhs++) {
                int given = lhs;
                Unchanged.by(CHECK, "a ninth rule(" + lhs + ")", States.edit(rules), x -> x.rule(given), FULL);
            }
        }
    }

    private static void refusedInBuiltChangesNothing() {
        CHECK.says("When the call is refused nothing changes:");
        for (int lhs : new int[] {-1, 0, 2, 3}) {
            Unchanged.inBuilt(CHECK, "rule(" + lhs + ")", x -> x.rule(lhs), PHASE);
        }
    }

    private static void refusedKeepsTheCurrentRuleOpen() {
        CHECK.says("in particular the former current rule, if any, stays current and open, and further symbols still "
                + "go to it.");
        RegApprox x = Given.entered(2, 3, "B->c", "A->a");
        CHECK.due("rule(2) of 2", x.rule(2), RANGE);
        CHECK.due("terminal(1) after rule(2)", x.terminal(1), 2);
        CHECK.due("rule(-1)", x.rule(-1), RANGE);
        CHECK.due("nonterminal(1) after rule(-1)", x.nonterminal(1), 3);
        CHECK.due("build()", x.build(), 2);
        CHECK.word(Given.word(x, "abc"), "A->abB, B->c: abc", "approx grammar live 0");
        CHECK.word(Given.word(x, "a"), "A->abB, B->c: a", "- - live b");
        RegApprox full = Given.entered(2, 3, "B->", "B->", "B->", "B->", "B->", "B->", "B->", "A->a");
        CHECK.due("a ninth rule(1)", full.rule(1), FULL);
        CHECK.due("terminal(2) after it", full.terminal(2), 2);
        CHECK.due("build()", full.build(), 2);
        CHECK.word(Given.word(full, "ac"), "A->ac, B-> | ..: ac", "approx grammar live 0");
    }

    private static void refusedWithoutCurrentRule() {
        CHECK.says("in particular the former current rule, if any, stays current and open, and further symbols still "
                + "go to it.");
        RegApprox x = new RegApprox(2, 3);
        CHECK.due("rule(2) of 2, none started", x.rule(2), RANGE);
        CHECK.due("terminal(0) after it", x.terminal(0), RegApprox.ERR_NO_RULE);
        CHECK.due("nonterminal(0) after it", x.nonterminal(0), RegApprox.ERR_NO_RULE);
        CHECK.due("rule(1)", x.rule(1), 0);
    }

    private static void symbolCountStays() {
        CHECK.says("The symbol count of all rules together is not changed by this call, since the new rule starts "
                + "empty.");
        RegApprox eleven = Given.entered(1, 1, "A->aaaa", "A->aaaa", "A->aaa", "A->", "A->", "A->");
        CHECK.due("a twelfth symbol after three empty rules", eleven.terminal(0), 1);
        CHECK.due("a thirteenth", eleven.terminal(0), FULL);
        CHECK.due("rule(0) with twelve symbols", eleven.rule(0), 6);
        CHECK.due("a thirteenth in the new rule", eleven.terminal(0), FULL);
        CHECK.due("a thirteenth in the new rule", eleven.nonterminal(0), FULL);
        RegApprox none = Given.entered(1, 1, "A->", "A->", "A->", "A->", "A->");
        for (int rule = 5; rule < 8; rule++) {
            CHECK.due("rule(0)", none.rule(0), rule);
            for (int length = 1; length <= 4; length++) {
                CHECK.due("terminal(0)", none.terminal(0), length);
            }
        }
    }

    // ---- Promise 5 ----

    private static void countInEveryPhase() {
        CHECK.says("`ruleCount()` answers the number of rules entered so far (0..8), in any phase.");
        for (int rules = 0; rules <= 8; rules++) {
            RegApprox x = new RegApprox(2, 1);
            for (int i = 0; i < rules; i++) {
                x.rule(i % 2);
                x.nonterminal(0);
            }
            CHECK.due("EDIT: ruleCount()", x.ruleCount(), rules);
            x.build();
            CHECK.due("BUILT: ruleCount()", x.ruleCount(), rules);
        }
    }

    private static void refusedRulesAreNotCounted() {
        CHECK.says("Rules that were refused are not counted.");
        RegApprox x = new RegApprox(2, 1);
        for (int far : Given.FAR) {
            x.rule(far);
        }
        CHECK.due("ruleCount() after refused ones alone", x.ruleCount(), 0);
        for (int i = 0; i < 11; i++) {
            x.rule(2);
            x.rule(0);
            CHECK.due("ruleCount() among refused ones", x.ruleCount(), Math.min(8, i + 1));
        }
    }

    private static void countStaysAfterBuild() {
        CHECK.says("After `build()` the answer stays fixed.");
        RegApprox x = Given.built(2, 2, "A->aAb", "A->B", "B->");
        for (int i = 0; i < 14; i++) {
            x.rule(0);
            x.terminal(0);
            x.build();
            x.feed(i % 2);
            CHECK.due("BUILT: ruleCount()", x.ruleCount(), 3);
        }
        x.clearInput();
        CHECK.due("BUILT, w cleared: ruleCount()", x.ruleCount(), 3);
    }

    private static void countChangesNothing() {
        CHECK.says("It changes nothing.");
        Unchanged.always(CHECK, "ruleCount()", x -> x.ruleCount());
    }
}
