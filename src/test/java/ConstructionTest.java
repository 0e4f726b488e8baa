/** Promise 1, sentence by sentence. */
public final class ConstructionTest {
    private static final int LEAST = Integer.MIN_VALUE;
    private static final int MOST = Integer.MAX_VALUE;
    private static final int[] TOO_SMALL = {0, -1, -2, -6, -256, -65535, LEAST + 1, LEAST};

    private static final Check CHECK = new Check("ConstructionTest");

    public static void main(String[] args) {
        neverFails();
        nonterminalsBelow();
        nonterminalsAbove();
        nonterminalsKept();
        terminalsBelow();
        terminalsAbove();
        terminalsKept();
        extremes();
        sizesStay();
        startState();
        startStateIsItsOwn();
        CHECK.end();
    }

    private static void neverFails() {
        CHECK.says("`RegApprox(int nonterminals, int terminals)` never fails.");
        int[] asked = {LEAST, LEAST + 1, -7, -1, 0, 1, 2, 3, 4, 5, 6, 7, 8, 256, 65537, MOST - 1, MOST};
        for (int nonterminals : asked) {
            for (int terminals : asked) {
                sizes(nonterminals, terminals, Math.max(1, Math.min(6, nonterminals)),
                        Math.max(1, Math.min(4, terminals)));
            }
        }
    }

    private static void nonterminalsBelow() {
        CHECK.says("N is `nonterminals` clamped into 1..6: a value below 1 becomes 1");
        for (int asked : TOO_SMALL) {
            sizes(asked, 3, 1, 3);
        }
    }

    private static void nonterminalsAbove() {
        CHECK.says("and a value above 6 becomes 6");
        for (int asked : new int[] {7, 8, 12, 256, 65536, MOST - 1, MOST}) {
            sizes(asked, 3, 6, 3);
        }
    }

    private static void nonterminalsKept() {
        CHECK.says("any value in 1..6 is kept.");
        for (int asked = 1; asked <= 6; asked++) {
            sizes(asked, 3, asked, 3);
        }
    }

    private static void terminalsBelow() {
        CHECK.says("T is `terminals` clamped into 1..4 in the same way.");
        for (int asked : TOO_SMALL) {
            sizes(5, asked, 5, 1);
        }
    }

    private static void terminalsAbove() {
        CHECK.says("T is `terminals` clamped into 1..4 in the same way.");
        for (int asked : new int[] {5, 6, 7, 12, 256, 65536, MOST - 1, MOST}) {
            sizes(5, asked, 5, 4);
        }
    }

    private static void terminalsKept() {
        CHECK.says("T is `terminals` clamped into 1..4 in the same way.");
        for (int asked = 1; asked <= 4; asked++) {
            sizes(5, asked, 5, asked);
        }
    }

    private static void extremes() {
        CHECK.says("Extreme values such as `Integer.MIN_VALUE` give 1 and `Integer.MAX_VALUE` gives the upper bound.");
        sizes(LEAST, LEAST, 1, 1);
        sizes(LEAST, MOST, 1, 4);
        sizes(MOST, LEAST, 6, 1);
        sizes(MOST, MOST, 6, 4);
    }

    private static void sizesStay() {
        CHECK.says("N and T never change afterwards.");
        RegApprox x = new RegApprox(2, 3);
        for (int far : Given.FAR) {
            x.rule(far);
            x.terminal(far);
            x.nonterminal(far);
        }
        edges(x, 2, 3);
        CHECK.due("build()", x.build(), 2);
        edgesBuilt(x, 2, 3);
        for (int i = 0; i < 14; i++) {
            x.feed(i % 3);
            x.feed(Given.FAR[i]);
        }
        x.build();
        x.clearInput();
        edgesBuilt(x, 2, 3);
    }

    private static void startState() {
        CHECK.says("The new object is in phase EDIT, with no rules (`ruleCount()` answers 0), no current rule, and an "
                + "empty w (`inputLength()` answers 0).");
        for (int n = 1; n <= 6; n++) {
            for (int t = 1; t <= 4; t++) {
                RegApprox x = new RegApprox(n, t);
                CHECK.due("new: ruleCount()", x.ruleCount(), 0);
                CHECK.due("new: inputLength()", x.inputLength(), 0);
                CHECK.due("new: terminal(0)", x.terminal(0), RegApprox.ERR_NO_RULE);
                CHECK.due("new: nonterminal(0)", x.nonterminal(0), RegApprox.ERR_NO_RULE);
                CHECK.due("new: feed(0)", x.feed(0), RegApprox.ERR_PHASE);
                CHECK.due("new: clearInput()", x.clearInput(), RegApprox.ERR_PHASE);
                CHECK.due("new: setOf(0)", x.setOf(0), RegApprox.ERR_PHASE);
                CHECK.word(x, "new", "- - - -1");
                CHECK.due("new: rule(0)", x.rule(0), 0);
            }
        }
    }

    private static void startStateIsItsOwn() {
        CHECK.says("The new object is in phase EDIT, with no rules (`ruleCount()` answers 0), no current rule, and an "
                + "empty w (`inputLength()` answers 0).");
        RegApprox older = Given.built(1, 2, "A->ab");
        Given.word(older, "a");
        RegApprox x = new RegApprox(6, 4);
        CHECK.due("beside an older one: ruleCount()", x.ruleCount(), 0);
        CHECK.due("beside an older one: inputLength()", x.inputLength(), 0);
        CHECK.due("beside an older one: terminal(3)", x.terminal(3), RegApprox.ERR_NO_RULE);
        CHECK.due("beside an older one: rule(5)", x.rule(5), 0);
        CHECK.due("beside an older one: terminal(3)", x.terminal(3), 1);
        CHECK.due("the older one: ruleCount()", older.ruleCount(), 1);
        CHECK.word(older, "the older one: a", "- - live b");
    }

    private static void sizes(int nonterminals, int terminals, int n, int t) {
        RegApprox x = new RegApprox(nonterminals, terminals);
        edges(x, n, t);
        CHECK.due("RegApprox(" + nonterminals + ", " + terminals + ").build()", x.build(), n);
        edgesBuilt(x, n, t);
    }

    /** The last nonterminal uses none but itself, so that each is a set of its own. */
    private static void edges(RegApprox x, int n, int t) {
        String of = " of " + n + ", " + t;
        CHECK.due("rule(-1)" + of, x.rule(-1), RegApprox.ERR_RANGE);
        CHECK.due("rule(N)" + of, x.rule(n), RegApprox.ERR_RANGE);
        CHECK.due("rule(0)" + of, x.rule(0), 0);
        CHECK.due("rule(N-1)" + of, x.rule(n - 1), 1);
        CHECK.due("nonterminal(-1)" + of, x.nonterminal(-1), RegApprox.ERR_RANGE);
        CHECK.due("nonterminal(N)" + of, x.nonterminal(n), RegApprox.ERR_RANGE);
        CHECK.due("nonterminal(N-1)" + of, x.nonterminal(n - 1), 1);
        CHECK.due("terminal(-1)" + of, x.terminal(-1), RegApprox.ERR_RANGE);
        CHECK.due("terminal(T)" + of, x.terminal(t), RegApprox.ERR_RANGE);
        CHECK.due("terminal(0)" + of, x.terminal(0), 2);
        CHECK.due("terminal(T-1)" + of, x.terminal(t - 1), 3);
    }

    private static void edgesBuilt(RegApprox x, int n, int t) {
        String of = " of " + n + ", " + t;
        for (int a = -1; a <= 7; a++) {
            boolean in = a >= 0 && a < n;
            CHECK.due("setOf(" + a + ")" + of, x.setOf(a), in ? a : RegApprox.ERR_RANGE);
            CHECK.due("setKind(" + a + ") >= 0" + of, x.setKind(a) >= 0, in);
        }
        for (int token = -1; token <= 7; token++) {
            boolean in = token >= 0 && token < t;
            CHECK.due("clearInput()", x.clearInput(), RegApprox.OK);
            CHECK.due("feed(" + token + ")" + of, x.feed(token), in ? 1 : RegApprox.ERR_RANGE);
        }
        x.clearInput();
    }
}
