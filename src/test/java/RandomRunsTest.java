import java.util.ArrayList;
import java.util.List;
import java.util.Set;

/** All promises: many runs of calls, right and wrong ones, against a model of entry and the Oracle's answers. */
public final class RandomRunsTest {
    private static final int RUNS = 3000;
    private static final int[] FAR = {Integer.MIN_VALUE, -2, -1, 7, 12, 13, 32, 33, Integer.MAX_VALUE};

    private final Check check = new Check("RandomRunsTest");
    private long seed = 20261115L;
    private int selfRuns = 0;
    private int wideRuns = 0;

    public static void main(String[] args) {
        RandomRunsTest test = new RandomRunsTest();
        for (int run = 0; run < RUNS; run++) {
            test.run(run);
        }
        System.out.println("RandomRunsTest: " + test.selfRuns + " runs with a self-embedding set, " + test.wideRuns
                + " with a word seen in L2 that is not in L");
        test.check.due("enough runs with a self-embedding set", test.selfRuns > RUNS / 4, true);
        test.check.due("enough runs with L2 wider than L", test.wideRuns > RUNS / 10, true);
        test.check.end();
    }

    private int below(int bound) {
        seed = seed * 6364136223846793005L + 1442695040888963407L;
        return (int) ((seed >>> 33) % bound);
    }

    private void run(int run) {
        int n = 1 + below(run % 3 == 0 ? 6 : 3);
        int t = 1 + below(4);
        RegApprox x = new RegApprox(n, t);
        List<String> rules = enter(x, n, t);
        Oracle oracle = new Oracle(n, t, rules);
        String where = "run " + run + " " + rules;
        check.word(x, where + " EDIT", "- - - -1");
        check.due(where + " build()", x.build(), oracle.setTotal());
        sets(x, oracle, where);
        if (oracle.anySelf()) {
            selfRuns++;
        }
        shortWords(x, oracle, where);
        longWords(x, oracle, where);
        sets(x, oracle, where + " later");
    }

    // ---- Entry ----

    private List<String> enter(RegApprox x, int n, int t) {
        List<StringBuilder> model = new ArrayList<>();
        int calls = below(10) == 0 ? below(4) : 6 + below(22);
        int wrongOften = 4 + below(12);
        int emptyOften = 2 + below(6);
        for (int call = 0; call < calls; call++) {
            boolean far = below(wrongOften) == 0;
            int kind = below(10);
            if (model.isEmpty() && kind > 0 || kind < 2 || last(model) > 0 && below(emptyOften) == 0) {
                int lhs = far ? FAR[below(FAR.length)] : below(n);
                check.due("rule(" + lhs + ") at " + model, x.rule(lhs), ruleDue(model, lhs, n));
            } else if (kind < 6) {
                int value = far ? FAR[below(FAR.length)] : below(t + below(2));
                check.due("terminal(" + value + ") at " + model, x.terminal(value), symbolDue(model, value, t, 'a'));
            } else {
                int value = far ? FAR[below(FAR.length)] : below(n + below(2));
                check.due("nonterminal(" + value + ") at " + model, x.nonterminal(value),
                        symbolDue(model, value, n, 'A'));
            }
            check.due("ruleCount() at " + model, x.ruleCount(), model.size());
        }
        return model.stream().map(StringBuilder::toString).toList();
    }

    private static int last(List<StringBuilder> model) {
        return model.isEmpty() ? 0 : model.get(model.size() - 1).length() - 3;
    }

    private static int ruleDue(List<StringBuilder> model, int lhs, int n) {
        if (lhs < 0 || lhs >= n) {
            return -2;
        }
        if (model.size() == 8) {
            return -3;
        }
        model.add(new StringBuilder((char) ('A' + lhs) + "->"));
        return model.size() - 1;
    }

    private static int symbolDue(List<StringBuilder> model, int value, int bound, char first) {
        if (model.isEmpty()) {
            return -4;
        }
        if (value < 0 || value >= bound) {
            return -2;
        }
        int all = model.stream().mapToInt(r -> r.length() - 3).sum();
        if (last(model) == 4 || all == 12) {
            return -3;
        }
        model.get(model.size() - 1).append((char) (first + value));
        return last(model);
    }

    // ---- After build ----

    private void sets(RegApprox x, Oracle oracle, String where) {
        for (int a = 0; a < oracle.nonterminals; a++) {
            check.due(where + " setOf(" + a + ")", x.setOf(a), oracle.setOf(a));
            check.due(where + " setKind(" + a + ")", x.setKind(a), oracle.kindOf(a));
        }
        check.due(where + " setOf(N)", x.setOf(oracle.nonterminals), RegApprox.ERR_RANGE);
        check.due(where + " setKind(N)", x.setKind(oracle.nonterminals), RegApprox.ERR_RANGE);
        check.due(where + " selfEmbedding()", x.selfEmbedding(), oracle.anySelf());
        check.due(where + " transformedRuleCount()", x.transformedRuleCount(), oracle.rewritten.size());
        check.due(where + " ruleCount()", x.ruleCount(), oracle.rules.size());
        check.due(where + " build() again", x.build(), RegApprox.ERR_PHASE);
        check.due(where + " rule(0)", x.rule(0), RegApprox.ERR_PHASE);
        check.due(where + " terminal(0)", x.terminal(0), RegApprox.ERR_PHASE);
        check.due(where + " nonterminal(0)", x.nonterminal(0), RegApprox.ERR_PHASE);
    }

    /** Every word up to a length against the sets of all short strings. */
    private void shortWords(RegApprox x, Oracle oracle, String where) {
        int most = new int[] {0, 6, 4, 3, 3}[oracle.terminals];
        Set<String> inGrammar = Oracle.strings(oracle.rules, most);
        Set<String> inApprox = Oracle.strings(oracle.rewritten, most);
        Set<String> begun = Oracle.prefixes(oracle.rewritten, most);
        if (!inGrammar.equals(inApprox)) {
            wideRuns++;
        }
        List<String> words = new ArrayList<>(List.of(""));
        for (int i = 0; i < words.size(); i++) {
            String word = words.get(i);
            int mask = 0;
            for (int t = 0; t < oracle.terminals && word.length() < most; t++) {
                String longer = word + (char) ('a' + t);
                words.add(longer);
                mask |= begun.contains(longer) ? 1 << t : 0;
            }
            if (word.length() < most) {
                check.word(Given.word(x, word), where + " " + word, Given.answers(inApprox.contains(word),
                        inGrammar.contains(word), begun.contains(word), mask));
            }
        }
    }

    /** Some words of up to 12 tokens, most of them kept completable, against Earley's algorithm. */
    private void longWords(RegApprox x, Oracle oracle, String where) {
        for (int walk = 0; walk < 3; walk++) {
            Oracle.Earley approx = new Oracle.Earley(oracle.rewritten);
            Oracle.Earley grammar = new Oracle.Earley(oracle.rules);
            String word = "";
            check.due(where + " clearInput()", x.clearInput(), 0);
            for (int step = 0; step < 14; step++) {
                Oracle.Verdict wide = approx.verdict();
                Oracle.Verdict narrow = grammar.verdict();
                check.word(x, where + " " + word,
                        Given.answers(wide.accepted(), narrow.accepted(), wide.live(), wide.mask()));
                check.due(where + " inputLength()", x.inputLength(), word.length());
                refusedFeeds(x, oracle, where + " " + word);
                if (word.length() < 12) {
                    char token = (char) ('a' + choose(oracle.terminals, wide.mask()));
                    word += token;
                    check.due(where + " feed to " + word, x.feed(token - 'a'), word.length());
                    approx.feed(token);
                    grammar.feed(token);
                }
            }
        }
    }

    /** A token, most often one of the mask. */
    private int choose(int terminals, int mask) {
        int t = below(terminals);
        for (int tries = 0; tries < 8 && (mask >> t & 1) == 0; tries++) {
            t = below(terminals);
        }
        return t;
    }

    private void refusedFeeds(RegApprox x, Oracle oracle, String where) {
        if (below(8) == 0) {
            int far = FAR[below(FAR.length)];
            check.due(where + " feed(" + far + ")", x.feed(far), RegApprox.ERR_RANGE);
        }
        if (x.inputLength() == 12) {
            check.due(where + " feed to a full w", x.feed(below(oracle.terminals)), RegApprox.ERR_FULL);
        }
    }
}
