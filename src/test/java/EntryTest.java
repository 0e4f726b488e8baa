/** Promises 2 to 5. */
public final class EntryTest {
    private static final int[] FAR = {Integer.MIN_VALUE, Integer.MIN_VALUE + 1, -100, -1, 100, Integer.MAX_VALUE - 1,
        Integer.MAX_VALUE};

    public static void main(String[] args) {
        Check check = new Check("EntryTest");
        startingRules(check);
        refusedRuleKeepsCurrent(check);
        appending(check);
        rightSideFull(check);
        allSymbolsFull(check);
        orderOfConditions(check);
        afterBuild(check);
        check.end();
    }

    private static void startingRules(Check check) {
        RegApprox x = new RegApprox(3, 2);
        for (int i = 0; i < 8; i++) {
            check.due("ruleCount()", x.ruleCount(), i);
            check.due("rule(" + i % 3 + ")", x.rule(i % 3), i);
        }
        check.due("ruleCount() of 8", x.ruleCount(), 8);
        check.due("rule(0) as the ninth", x.rule(0), RegApprox.ERR_FULL);
        check.due("rule(3) as the ninth, range first", x.rule(3), RegApprox.ERR_RANGE);
        check.due("rule(-1) as the ninth, range first", x.rule(-1), RegApprox.ERR_RANGE);
        check.due("ruleCount() after refusals", x.ruleCount(), 8);
        check.due("terminal(1) to the eighth", x.terminal(1), 1);
        for (int lhs : FAR) {
            check.due("rule(" + lhs + ")", new RegApprox(3, 2).rule(lhs), RegApprox.ERR_RANGE);
        }
    }

    private static void refusedRuleKeepsCurrent(Check check) {
        RegApprox x = new RegApprox(2, 3);
        check.due("rule(9) with none started", x.rule(9), RegApprox.ERR_RANGE);
        check.due("terminal(0) after a refused rule", x.terminal(0), RegApprox.ERR_NO_RULE);
        check.due("rule(0)", x.rule(0), 0);
        check.due("terminal(0)", x.terminal(0), 1);
        check.due("rule(2)", x.rule(2), RegApprox.ERR_RANGE);
        check.due("terminal(1)", x.terminal(1), 2);
        check.due("rule(1)", x.rule(1), 1);
        check.due("terminal(2) to the new rule", x.terminal(2), 1);
        check.due("ruleCount()", x.ruleCount(), 2);
        check.due("build()", x.build(), 2);
        check.word(Given.word(x, "ab"), "A->ab, B->c: ab", "approx grammar live 0");
        check.word(Given.word(x, "a"), "A->ab, B->c: a", "- - live b");
        check.word(Given.word(x, "abc"), "A->ab, B->c: abc", "- - - 0");
    }

    private static void appending(Check check) {
        for (int far : FAR) {
            RegApprox x = Given.entered(3, 2, "A->a");
            check.due("terminal(" + far + ")", x.terminal(far), RegApprox.ERR_RANGE);
            check.due("nonterminal(" + far + ")", x.nonterminal(far), RegApprox.ERR_RANGE);
            check.due("terminal(2) of 2", x.terminal(2), RegApprox.ERR_RANGE);
            check.due("nonterminal(3) of 3", x.nonterminal(3), RegApprox.ERR_RANGE);
            check.due("nonterminal(2) of 3, a number that is no terminal", x.nonterminal(2), 2);
            check.due("terminal(1)", x.terminal(1), 3);
            check.due("ruleCount()", x.ruleCount(), 1);
        }
    }

    private static void rightSideFull(Check check) {
        RegApprox x = Given.entered(2, 2, "B->b", "A->aBab");
        check.due("a fifth terminal", x.terminal(0), RegApprox.ERR_FULL);
        check.due("a fifth nonterminal", x.nonterminal(0), RegApprox.ERR_FULL);
        check.due("a fifth symbol out of range, range first", x.terminal(2), RegApprox.ERR_RANGE);
        check.due("a fifth symbol out of range, range first", x.nonterminal(2), RegApprox.ERR_RANGE);
        check.due("the next rule", x.rule(0), 2);
        check.due("its first symbol", x.terminal(1), 1);
        check.due("build()", x.build(), 2);
        check.word(Given.word(x, "abab"), "A->aBab | b, B->b: abab", "approx grammar live 0");
        check.word(Given.word(x, ""), "A->aBab | b, B->b: empty", "- - live ab");
    }

    private static void allSymbolsFull(Check check) {
        RegApprox x = Given.entered(2, 2, "A->aaaa", "A->bbbb", "A->a", "A->ab", "A->b");
        check.due("a thirteenth terminal", x.terminal(0), RegApprox.ERR_FULL);
        check.due("a thirteenth nonterminal", x.nonterminal(0), RegApprox.ERR_FULL);
        check.due("a thirteenth out of range, range first", x.terminal(-1), RegApprox.ERR_RANGE);
        check.due("a thirteenth out of range, range first", x.nonterminal(-1), RegApprox.ERR_RANGE);
        check.due("an empty rule still fits", x.rule(1), 5);
        check.due("but no symbol of it", x.terminal(1), RegApprox.ERR_FULL);
        check.due("but no symbol of it", x.nonterminal(1), RegApprox.ERR_FULL);
        check.due("ruleCount()", x.ruleCount(), 6);
        check.due("build()", x.build(), 2);
        check.word(Given.word(x, "b"), "the last rule is A->b: b", "approx grammar live b");
        check.word(Given.word(x, "ba"), "the last rule is A->b: ba", "- - - 0");
    }

    private static void orderOfConditions(Check check) {
        RegApprox x = new RegApprox(1, 1);
        check.due("terminal(9) without a rule", x.terminal(9), RegApprox.ERR_NO_RULE);
        check.due("nonterminal(-9) without a rule", x.nonterminal(-9), RegApprox.ERR_NO_RULE);
        x.build();
        check.due("BUILT: terminal(9) without a rule", x.terminal(9), RegApprox.ERR_PHASE);
        check.due("BUILT: nonterminal(-9) without a rule", x.nonterminal(-9), RegApprox.ERR_PHASE);
        check.due("BUILT: rule(9)", x.rule(9), RegApprox.ERR_PHASE);
    }

    private static void afterBuild(Check check) {
        RegApprox x = Given.built(1, 2, "A->a", "A->");
        check.due("BUILT: rule(0)", x.rule(0), RegApprox.ERR_PHASE);
        check.due("BUILT: terminal(1)", x.terminal(1), RegApprox.ERR_PHASE);
        check.due("BUILT: nonterminal(0)", x.nonterminal(0), RegApprox.ERR_PHASE);
        check.due("BUILT: ruleCount()", x.ruleCount(), 2);
        check.due("BUILT: transformedRuleCount()", x.transformedRuleCount(), 2);
        check.word(x, "A->a | : empty", "approx grammar live a");
        x.feed(0);
        check.due("after feed: ruleCount()", x.ruleCount(), 2);
        check.due("after feed: rule(0)", x.rule(0), RegApprox.ERR_PHASE);
        check.word(x, "A->a | : a", "approx grammar live 0");
    }
}
