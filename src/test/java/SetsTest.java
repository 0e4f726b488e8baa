/** Promises 6 to 10. */
public final class SetsTest {
    private static final int PLAIN = RegApprox.KIND_PLAIN;
    private static final int RIGHT = RegApprox.KIND_RIGHT;
    private static final int LEFT = RegApprox.KIND_LEFT;
    private static final int SELF = RegApprox.KIND_SELF;

    private final Check check = new Check("SetsTest");

    public static void main(String[] args) {
        SetsTest test = new SetsTest();
        test.beforeBuild();
        test.buildTwice();
        test.noRules();
        test.emptyRuleAtTheEnd();
        test.outOfRange();
        test.sets();
        test.kinds();
        test.sizes();
        test.check.end();
    }

    private void beforeBuild() {
        RegApprox x = Given.entered(2, 2, "A->aAb");
        for (int a : new int[] {Integer.MIN_VALUE, -1, 0, 1, 2, Integer.MAX_VALUE}) {
            check.due("EDIT: setOf(" + a + ")", x.setOf(a), RegApprox.ERR_PHASE);
            check.due("EDIT: setKind(" + a + ")", x.setKind(a), RegApprox.ERR_PHASE);
        }
        check.due("EDIT: selfEmbedding()", x.selfEmbedding(), false);
        check.due("EDIT: transformedRuleCount()", x.transformedRuleCount(), RegApprox.ERR_PHASE);
        check.due("build() after the refusals", x.build(), 2);
        check.due("BUILT: selfEmbedding()", x.selfEmbedding(), true);
    }

    private void buildTwice() {
        RegApprox x = Given.built(2, 2, "A->aAb", "A->");
        Given.word(x, "aab");
        check.due("build() again", x.build(), RegApprox.ERR_PHASE);
        check.due("inputLength() after build() again", x.inputLength(), 3);
        check.due("ruleCount() after build() again", x.ruleCount(), 2);
        check.due("transformedRuleCount() after build() again", x.transformedRuleCount(), 4);
        check.word(x, "A->aAb | : aab after build() again", "approx - live b");
    }

    private void noRules() {
        for (int n = 1; n <= 6; n++) {
            RegApprox x = new RegApprox(n, 2);
            check.due("build() of " + n + " without rules", x.build(), n);
            for (int a = 0; a < n; a++) {
                check.due("no rules: setOf(" + a + ")", x.setOf(a), a);
                check.due("no rules: setKind(" + a + ")", x.setKind(a), PLAIN);
            }
            check.due("no rules: selfEmbedding()", x.selfEmbedding(), false);
            check.due("no rules: transformedRuleCount()", x.transformedRuleCount(), 0);
            check.due("no rules: inputLength()", x.inputLength(), 0);
            check.word(x, "no rules", "- - - 0");
            check.due("no rules: feed(1)", x.feed(1), 1);
            check.word(x, "no rules: b", "- - - 0");
        }
    }

    private void emptyRuleAtTheEnd() {
        RegApprox x = Given.built(1, 1, "A->aaa", "A->");
        check.due("ruleCount() with an empty rule at the end", x.ruleCount(), 2);
        check.word(x, "A->aaa | : empty", "approx grammar live a");
    }

    private void outOfRange() {
        RegApprox x = Given.built(3, 1, "A->aAa");
        for (int a : new int[] {Integer.MIN_VALUE, Integer.MIN_VALUE + 1, -7, -1, 3, 4, 6, Integer.MAX_VALUE}) {
            check.due("setOf(" + a + ") of 3", x.setOf(a), RegApprox.ERR_RANGE);
            check.due("setKind(" + a + ") of 3", x.setKind(a), RegApprox.ERR_RANGE);
        }
    }

    private void sets() {
        sets("one after the other", "ABC", "A->B", "B->C", "C->a");
        sets("a cycle of three", "AAA", "A->B", "B->C", "C->A");
        sets("a cycle the other way round", "AAA", "A->C", "C->B", "B->A");
        sets("a cycle of six", "AAAAAA", "A->F", "F->B", "B->E", "E->C", "C->D", "D->A");
        sets("two cycles, one uses the other", "ABBA", "A->DB", "D->A", "B->C", "C->B");
        sets("a cycle that 0 is not in", "ABCB", "A->a", "B->D", "D->B");
        sets("its own user", "AB", "A->A", "B->B");
        sets("reached but not reaching", "AB", "A->BB", "B->bB");
        sets("two cycles joined in one", "AAAA", "A->B", "B->A", "B->C", "C->D", "D->B");
        sets("a use in the middle of a right side", "AA", "A->aBb", "B->bAa");
        sets("a use that derives nothing", "AAC", "A->BC", "B->A");
        sets("a use beside another rule of the same left side", "AAC", "A->a", "A->B", "B->b", "B->CA");
    }

    /** The names of the sets of A, B, .. in order. */
    private void sets(String what, String names, String... rules) {
        RegApprox x = Given.entered(names.length(), 2, rules);
        check.due(what + ": build()", x.build(), names.chars().distinct().count());
        for (int a = 0; a < names.length(); a++) {
            check.due(what + ": setOf(" + a + ")", x.setOf(a), names.charAt(a) - 'A');
        }
    }

    private void kinds() {
        kinds("no use at all", new int[] {PLAIN}, "A->ab");
        kinds("uses of other sets alone", new int[] {PLAIN, PLAIN}, "A->BaB", "B->b");
        kinds("last", new int[] {RIGHT}, "A->aA", "A->b");
        kinds("first", new int[] {LEFT}, "A->Aa", "A->b");
        kinds("first and last", new int[] {RIGHT}, "A->A", "A->b");
        kinds("first and last, one beside one first", new int[] {LEFT}, "A->A", "A->Ab");
        kinds("first and last, one beside one last", new int[] {RIGHT}, "A->A", "A->bA");
        kinds("one first, one last", new int[] {SELF}, "A->aA", "A->Aa");
        kinds("in the middle", new int[] {SELF}, "A->aAa");
        kinds("twice, first and last", new int[] {SELF}, "A->AA", "A->a");
        kinds("twice, the second last", new int[] {SELF}, "A->aAA");
        kinds("twice, the first at the first place", new int[] {SELF}, "A->AAa");
        kinds("in the middle beside last ones", new int[] {SELF}, "A->aA", "A->aAb", "A->aA");
        kinds("last after another set", new int[] {RIGHT, PLAIN}, "A->BA", "B->b");
        kinds("first before another set", new int[] {LEFT, PLAIN}, "A->AB", "B->b");
        kinds("between other sets", new int[] {SELF, PLAIN}, "A->BAB", "B->b");
        kinds("another set without rules makes a middle too", new int[] {SELF, PLAIN}, "A->aAB");
        kinds("two of one set, both last", new int[] {RIGHT, RIGHT}, "A->aB", "B->bA", "B->");
        kinds("two of one set, both first", new int[] {LEFT, LEFT}, "A->Ba", "B->Ab", "B->");
        kinds("two of one set, one last, one first", new int[] {SELF, SELF}, "A->aB", "B->Ab", "B->");
        kinds("two of one set, one alone, one first", new int[] {LEFT, LEFT}, "A->B", "B->Ab");
        kinds("two of one set, one alone, one last", new int[] {RIGHT, RIGHT}, "A->B", "B->bA");
        kinds("every kind", new int[] {PLAIN, RIGHT, LEFT, SELF, PLAIN}, "A->BCDE", "B->aB", "C->Ca", "D->aDa");
        kinds("a set used at the middle by another", new int[] {SELF, RIGHT}, "A->aAB", "B->bB");
    }

    private void kinds(String what, int[] kinds, String... rules) {
        RegApprox x = Given.built(kinds.length, 2, rules);
        boolean self = false;
        for (int a = 0; a < kinds.length; a++) {
            check.due(what + ": setKind(" + a + ")", x.setKind(a), kinds[a]);
            self |= kinds[a] == SELF;
        }
        check.due(what + ": selfEmbedding()", x.selfEmbedding(), self);
        if (!self) {
            check.due(what + ": transformedRuleCount()", x.transformedRuleCount(), x.ruleCount());
        }
    }

    private void sizes() {
        size(2, 1, "A->aA", "A->b");
        size(2, 1, "A->b", "A->b");
        size(3, 1, "A->aAb");
        size(5, 1, "A->aAb", "A->aAb");
        size(3, 1, "A->b", "A->aA", "A->b");
        size(2 + 1 + 1, 1, "A->aAb", "A->");
        size(5 + 1, 1, "A->AAAA");
        size(2 + 1 + 1, 2, "A->aAB", "B->bB");
        size(2 + 2 + 2, 2, "A->aBb", "B->A");
        size(2 + 2 + 1 + 2, 3, "A->aBb", "B->CA", "C->");
        size(8 + 12 + 6, 6, "A->BBBB", "B->CC", "C->D", "D->E", "E->F", "F->A", "A->A", "A->A");
        size(2 + 2 + 2 + 3, 3, "A->aAb", "B->aBb", "C->aCb");
    }

    private void size(int rules, int nonterminals, String... given) {
        RegApprox x = Given.built(nonterminals, 2, given);
        check.due(String.join(", ", given) + ": transformedRuleCount()", x.transformedRuleCount(), rules);
        Given.word(x, "ab");
        check.due(String.join(", ", given) + ": transformedRuleCount() later", x.transformedRuleCount(), rules);
    }
}
