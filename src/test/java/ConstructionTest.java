/** Promise 1. */
public final class ConstructionTest {
    private static final int LEAST = Integer.MIN_VALUE;
    private static final int MOST = Integer.MAX_VALUE;

    public static void main(String[] args) {
        Check check = new Check("ConstructionTest");
        int[] asked = {LEAST, LEAST + 1, -1, 0, 1, 2, 3, 4, 5, 6, 7, 100, MOST - 1, MOST};
        for (int nonterminals : asked) {
            for (int terminals : asked) {
                sizes(check, nonterminals, terminals);
            }
        }
        startState(check);
        check.end();
    }

    private static void sizes(Check check, int nonterminals, int terminals) {
        String made = "RegApprox(" + nonterminals + ", " + terminals + ")";
        int n = Math.max(1, Math.min(6, nonterminals));
        int t = Math.max(1, Math.min(4, terminals));
        RegApprox x = new RegApprox(nonterminals, terminals);
        check.due(made + ".rule(N)", x.rule(n), RegApprox.ERR_RANGE);
        check.due(made + ".rule(N-1)", x.rule(n - 1), 0);
        check.due(made + ".nonterminal(N)", x.nonterminal(n), RegApprox.ERR_RANGE);
        check.due(made + ".nonterminal(N-1)", x.nonterminal(n - 1), 1);
        check.due(made + ".terminal(T)", x.terminal(t), RegApprox.ERR_RANGE);
        check.due(made + ".terminal(T-1)", x.terminal(t - 1), 2);
        int built = x.build();
        check.due(made + ".build()", built, n);
        check.due(made + ".setOf(N)", x.setOf(n), RegApprox.ERR_RANGE);
        check.due(made + ".setOf(N-1)", x.setOf(n - 1), n - 1);
        check.due(made + ".feed(T)", x.feed(t), RegApprox.ERR_RANGE);
        check.due(made + ".feed(T-1)", x.feed(t - 1), 1);
    }

    private static void startState(Check check) {
        RegApprox x = new RegApprox(6, 4);
        check.due("new: ruleCount()", x.ruleCount(), 0);
        check.due("new: inputLength()", x.inputLength(), 0);
        check.due("new: terminal(0)", x.terminal(0), RegApprox.ERR_NO_RULE);
        check.due("new: nonterminal(0)", x.nonterminal(0), RegApprox.ERR_NO_RULE);
        check.due("new: feed(0)", x.feed(0), RegApprox.ERR_PHASE);
        check.due("new: rule(5)", x.rule(5), 0);
        RegApprox other = new RegApprox(6, 4);
        check.due("another new one: ruleCount()", other.ruleCount(), 0);
    }
}
