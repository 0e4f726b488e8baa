/** Promises 6 to 10, sentence by sentence. What sets and kinds are is tested in GrammarTest. */
public final class SetsTest {
    private static final int PHASE = RegApprox.ERR_PHASE;
    private static final int RANGE = RegApprox.ERR_RANGE;
    private static final int[] ANY = {-1, 0, 2, 3};

    private static final Check CHECK = new Check("SetsTest");

    public static void main(String[] args) {
        ending();
        setOf();
        setKind();
        selfEmbedding();
        transformedRuleCount();
        CHECK.end();
    }

    // ---- Promise 6 ----

    private static void ending() {
        refusedInBuilt();
        phaseBecomesBuilt();
        inputIsEmpty();
        numberOfSets();
        entryIsRefused();
        grammarStays();
        emptyRightSides();
        zeroRules();
    }

    private static void refusedInBuilt() {
        CHECK.says("In phase BUILT it is refused and answers `ERR_PHASE`, changing nothing.");
        Unchanged.inBuilt(CHECK, "build()", x -> x.build(), PHASE);
        RegApprox x = States.built("aab", "A->aAb", "A->").get();
        CHECK.due("build() again", x.build(), PHASE);
        CHECK.due("inputLength() after it", x.inputLength(), 3);
        CHECK.due("transformedRuleCount() after it", x.transformedRuleCount(), 4);
        CHECK.word(x, "aab after it", "approx - live b");
    }

    private static void phaseBecomesBuilt() {
        CHECK.says("Otherwise the phase becomes BUILT, the sets, the kinds and G2 are fixed as defined in \"What it is\"");
        RegApprox x = Given.entered(3, 2, "A->aBb", "B->A", "C->aC");
        CHECK.due("build()", x.build(), 2);
        CHECK.due("setOf(1)", x.setOf(1), 0);
        CHECK.due("setOf(2)", x.setOf(2), 2);
        CHECK.due("setKind(0)", x.setKind(0), RegApprox.KIND_SELF);
        CHECK.due("setKind(1)", x.setKind(1), RegApprox.KIND_SELF);
        CHECK.due("setKind(2)", x.setKind(2), RegApprox.KIND_RIGHT);
        CHECK.due("selfEmbedding()", x.selfEmbedding(), true);
        CHECK.due("transformedRuleCount()", x.transformedRuleCount(), 2 + 2 + 1 + 2);
        CHECK.due("feed(0)", x.feed(0), 1);
    }

    private static void inputIsEmpty() {
        CHECK.says("and w is empty.");
        RegApprox x = Given.entered(1, 2, "A->", "A->aa");
        x.feed(0);
        x.feed(0);
        CHECK.due("build()", x.build(), 1);
        CHECK.due("inputLength()", x.inputLength(), 0);
        CHECK.word(x, "A-> | aa: empty", "approx grammar live a");
        CHECK.due("the first feed(0)", x.feed(0), 1);
    }

    private static void numberOfSets() {
        CHECK.says("The call answers the number of distinct sets among 0..N-1 (1..N).");
        for (int n = 1; n <= 6; n++) {
            for (int circle = 1; circle <= n; circle++) {
                RegApprox x = new RegApprox(n, 1);
                // The last `circle` of them use each other in turn.
                for (int i = 0; i < circle; i++) {
                    x.rule(n - circle + i);
                    x.nonterminal(n - circle + (i + 1) % circle);
                }
                CHECK.due(circle + " of " + n + " in a circle: build()", x.build(), n - circle + 1);
            }
        }
        CHECK.due("three pairs: build()",
                Given.entered(6, 1, "A->D", "D->A", "B->E", "E->B", "C->F", "F->C").build(), 3);
    }

    private static void entryIsRefused() {
        CHECK.says("From then on `rule`, `terminal` and `nonterminal` answer `ERR_PHASE`");
        String[][] grammars = {{}, {"A->"}, {"A->aAb", "B->a"}, {"A->aaaa", "A->aaaa", "A->aaaa"}};
        for (String[] rules : grammars) {
            RegApprox x = Given.built(2, 2, rules);
            for (int i = 0; i < 14; i++) {
                CHECK.due("BUILT: rule(0)", x.rule(0), PHASE);
                CHECK.due("BUILT: terminal(0)", x.terminal(0), PHASE);
                CHECK.due("BUILT: nonterminal(0)", x.nonterminal(0), PHASE);
                x.feed(1);
            }
            x.clearInput();
            x.build();
            CHECK.due("BUILT, w cleared: rule(1)", x.rule(1), PHASE);
            CHECK.due("BUILT, w cleared: terminal(1)", x.terminal(1), PHASE);
            CHECK.due("BUILT, w cleared: nonterminal(1)", x.nonterminal(1), PHASE);
        }
    }

    private static void grammarStays() {
        CHECK.says("and G stays as it was when `build()` was called");
        RegApprox x = Given.built(2, 2, "B->b", "A->a");
        x.terminal(1);
        x.nonterminal(0);
        x.rule(0);
        x.terminal(1);
        x.build();
        CHECK.due("ruleCount()", x.ruleCount(), 2);
        CHECK.due("transformedRuleCount()", x.transformedRuleCount(), 2);
        CHECK.due("setKind(0)", x.setKind(0), RegApprox.KIND_PLAIN);
        CHECK.word(x, "A->a: empty", "- - live a");
        CHECK.word(Given.word(x, "a"), "A->a: a", "approx grammar live 0");
        CHECK.word(Given.word(x, "b"), "A->a: b", "- - - 0");
    }

    private static void emptyRightSides() {
        CHECK.says("including any rule left with an empty right side.");
        String[][] grammars = {{"A->aaa", "A->"}, {"A->", "A->aaa"}, {"A->aaa", "A->", "A->aaa"},
            {"A->aaa", "A->B", "B->"}};
        for (String[] rules : grammars) {
            RegApprox x = Given.built(2, 1, rules);
            x.terminal(0);
            CHECK.due("ruleCount()", x.ruleCount(), rules.length);
            CHECK.due("transformedRuleCount()", x.transformedRuleCount(), rules.length);
            CHECK.word(x, String.join(", ", rules) + ": empty", "approx grammar live a");
            CHECK.word(Given.word(x, "a"), String.join(", ", rules) + ": a", "- - live a");
        }
        RegApprox only = Given.built(1, 1, "A->");
        CHECK.word(only, "A->: empty", "approx grammar live 0");
        RegApprox self = Given.built(1, 2, "A->aAb", "A->");
        CHECK.word(self, "A->aAb | : empty", "approx grammar live ab");
    }

    private static void zeroRules() {
        CHECK.says("It also works with zero rules; then every nonterminal is alone in its set, so the answer is N, every "
                + "set is `KIND_PLAIN`, and L = L2 = empty.");
        for (int n = 1; n <= 6; n++) {
            RegApprox x = new RegApprox(n, 2);
            CHECK.due("build() of " + n + " without rules", x.build(), n);
            for (int a = 0; a < n; a++) {
                CHECK.due("no rules: setOf(" + a + ")", x.setOf(a), a);
                CHECK.due("no rules: setKind(" + a + ")", x.setKind(a), RegApprox.KIND_PLAIN);
            }
            CHECK.due("no rules: selfEmbedding()", x.selfEmbedding(), false);
            CHECK.due("no rules: transformedRuleCount()", x.transformedRuleCount(), 0);
            CHECK.word(x, "no rules: empty", "- - - 0");
            for (int length = 1; length <= 12; length++) {
                CHECK.due("no rules: feed(1)", x.feed(1), length);
                CHECK.word(x, "no rules: b..", "- - - 0");
            }
        }
    }

    // ---- Promise 7 ----

    private static void setOf() {
        CHECK.says("`setOf(int a)` answers the name (smallest member) of the set containing a.");
        names("ABCBB", "E->D", "D->B", "B->E");
        names("ABBA", "D->A", "A->D", "C->B", "B->C");

        CHECK.says("phase EDIT answers `ERR_PHASE`; a < 0 or a >= N answers `ERR_RANGE`.");
        CHECK.due("EDIT: setOf(0)", States.edit("A->aA").get().setOf(0), PHASE);
        CHECK.due("EDIT, no rules: setOf(2)", States.edit().get().setOf(2), PHASE);
        for (int n = 1; n <= 6; n++) {
            RegApprox x = Given.built(n, 1, "A->A");
            CHECK.due("setOf(-1) of " + n, x.setOf(-1), RANGE);
            CHECK.due("setOf(0) of " + n, x.setOf(0), 0);
            CHECK.due("setOf(N-1) of " + n, x.setOf(n - 1), n - 1);
            for (int a = n; a <= 8; a++) {
                CHECK.due("setOf(" + a + ") of " + n, x.setOf(a), RANGE);
            }
        }

        CHECK.says("The conditions are examined in this order: phase EDIT answers `ERR_PHASE`");
        for (int far : Given.FAR) {
            CHECK.due("EDIT: setOf(" + far + ")", States.edit("A->aA").get().setOf(far), PHASE);
        }
        CHECK.due("EDIT: setOf(3) of 3", States.edit("A->aA").get().setOf(3), PHASE);

        CHECK.says("Otherwise the answer is in 0..a, and two nonterminals get the same answer exactly when they are in "
                + "the same set.");
        names("AAAAAA", "A->B", "B->C", "C->D", "D->E", "E->F", "F->A");
        names("ABCDEF", "A->F", "B->F", "C->F", "D->F", "E->F");
        names("ABABAB", "A->C", "C->E", "E->A", "B->D", "D->F", "F->B");
        names("ABCCBA", "A->F", "F->A", "B->E", "E->B", "C->D", "D->C");
        names("ABCDEE", "E->F", "F->E");
        names("A", "A->A");

        CHECK.says("It changes nothing.");
        for (int a : ANY) {
            Unchanged.always(CHECK, "setOf(" + a + ")", x -> x.setOf(a));
        }
    }

    private static void names(String names, String... rules) {
        RegApprox x = Given.built(names.length(), 1, rules);
        for (int a = 0; a < names.length(); a++) {
            CHECK.due(String.join(", ", rules) + ": setOf(" + a + ")", x.setOf(a), names.charAt(a) - 'A');
        }
    }

    // ---- Promise 8 ----

    private static void setKind() {
        CHECK.says("`setKind(int a)` answers the kind (`KIND_PLAIN`..`KIND_SELF`) of the set containing a.");
        RegApprox each = Given.built(4, 2, "A->BCD", "B->aB", "C->Ca", "D->aDa");
        for (int a = 0; a < 4; a++) {
            CHECK.due("setKind(" + a + ")", each.setKind(a), a);
        }

        CHECK.says("The conditions are the same as for `setOf(a)`, in the same order: phase EDIT answers `ERR_PHASE`; "
                + "a < 0 or a >= N answers `ERR_RANGE`.");
        for (int n = 1; n <= 6; n++) {
            RegApprox x = Given.entered(n, 1, "A->aAa");
            for (int far : Given.FAR) {
                CHECK.due("EDIT: setKind(" + far + ")", x.setKind(far), PHASE);
            }
            CHECK.due("EDIT: setKind(0)", x.setKind(0), PHASE);
            CHECK.due("EDIT: setKind(N)", x.setKind(n), PHASE);
            x.build();
            CHECK.due("setKind(-1) of " + n, x.setKind(-1), RANGE);
            CHECK.due("setKind(0) of " + n, x.setKind(0), RegApprox.KIND_SELF);
            CHECK.due("setKind(N-1) of " + n, x.setKind(n - 1), n == 1 ? RegApprox.KIND_SELF : RegApprox.KIND_PLAIN);
            for (int a = n; a <= 8; a++) {
                CHECK.due("setKind(" + a + ") of " + n, x.setKind(a), RANGE);
            }
        }

        CHECK.says("All members of one set get the same answer.");
        kindOfAll(RegApprox.KIND_SELF, "A->aBb", "B->C", "C->D", "D->A", "D->");
        kindOfAll(RegApprox.KIND_SELF, "A->B", "B->C", "C->D", "D->aAb");
        kindOfAll(RegApprox.KIND_LEFT, "A->Ba", "B->C", "C->D", "D->A");
        kindOfAll(RegApprox.KIND_LEFT, "A->B", "B->C", "C->D", "D->Aa");
        kindOfAll(RegApprox.KIND_RIGHT, "A->aB", "B->C", "C->D", "D->A");
        kindOfAll(RegApprox.KIND_RIGHT, "A->B", "B->C", "C->D", "D->A");
        kindOfAll(RegApprox.KIND_PLAIN, "A->a");

        CHECK.says("It changes nothing.");
        for (int a : ANY) {
            Unchanged.always(CHECK, "setKind(" + a + ")", x -> x.setKind(a));
        }
    }

    private static void kindOfAll(int kind, String... rules) {
        RegApprox x = Given.built(4, 2, rules);
        for (int a = 0; a < 4; a++) {
            CHECK.due(String.join(", ", rules) + ": setKind(" + a + ")", x.setKind(a), kind);
        }
    }

    // ---- Promise 9 ----

    private static void selfEmbedding() {
        CHECK.says("`selfEmbedding()` answers true exactly when the phase is BUILT and at least one set has kind "
                + "`KIND_SELF`.");
        embeds(false);
        embeds(false, "A->aA", "B->Ba", "C->aB");
        embeds(false, "A->AB", "B->bB", "C->C");
        embeds(true, "A->aAb");
        embeds(true, "B->aBb");
        embeds(true, "C->aCb", "A->a");
        embeds(true, "A->aAb", "B->aBb", "C->aCb");
        embeds(true, "B->aC", "C->Ba");

        CHECK.says("In phase EDIT it answers false.");
        CHECK.due("EDIT, no rules: selfEmbedding()", States.edit().get().selfEmbedding(), false);
        CHECK.due("EDIT: selfEmbedding()", States.edit("A->aAb").get().selfEmbedding(), false);
        CHECK.due("EDIT: selfEmbedding()", States.edit("B->aBb", "A->a").get().selfEmbedding(), false);

        CHECK.says("It changes nothing.");
        Unchanged.always(CHECK, "selfEmbedding()", x -> x.selfEmbedding() ? 1 : 0);
    }

    private static void embeds(boolean due, String... rules) {
        RegApprox x = Given.entered(3, 2, rules);
        x.build();
        CHECK.due(String.join(", ", rules) + ": selfEmbedding()", x.selfEmbedding(), due);
        x.feed(1);
        CHECK.due(String.join(", ", rules) + ": selfEmbedding() later", x.selfEmbedding(), due);
    }

    // ---- Promise 10 ----

    private static void transformedRuleCount() {
        CHECK.says("In phase EDIT it answers `ERR_PHASE`.");
        CHECK.due("EDIT, no rules: transformedRuleCount()", States.edit().get().transformedRuleCount(), PHASE);
        CHECK.due("EDIT: transformedRuleCount()", States.edit("A->a").get().transformedRuleCount(), PHASE);
        CHECK.due("EDIT: transformedRuleCount()", States.edit("A->aAb").get().transformedRuleCount(), PHASE);

        CHECK.says("1 for each rule of G whose left side's set is not `KIND_SELF`;");
        size(1 + 2 + 1, "A->aAb", "B->b");
        size(4 + 2 + 1, "A->aAb", "B->bB", "B->", "C->CbB", "C->A");

        CHECK.says("plus (m + 1) for each rule of G whose left side's set is `KIND_SELF`, where m is that rule's number "
                + "of member occurrences;");
        size(1 + 2 + 1, "A->", "A->aAb");
        size(1 + 2 + 1, "A->b", "A->aAb");
        size(2 + 2 + 1, "A->aA", "A->Ab");
        size(3 + 1, "A->AA");
        size(4 + 1, "A->AbAA");
        size(5 + 1, "A->AAAA");
        size(3 + 1, "A->ABAC");
        size(3 + 2 + 2, "A->BA", "B->A");
        size(2 + 1 + 1, "A->aAb", "A->BC");

        CHECK.says("plus the number of nonterminals whose set is `KIND_SELF`.");
        size(2 + 2 + 2, "A->aBb", "B->A");
        size(2 + 2 + 2 + 3, "A->aBb", "B->C", "C->A");
        size(2 + 2 + 2 + 3, "A->aAb", "B->aBb", "C->aCb");
        size(2 + 1, "C->aCb");

        CHECK.says("Identical rules count once for each copy.");
        size(3, "A->b", "A->b", "A->b");
        size(2 + 2 + 2 + 1, "A->aAb", "A->aAb", "A->aAb");
        size(1 + 1 + 2 + 1, "A->", "A->", "A->aAb");

        CHECK.says("When no set has kind `KIND_SELF`, the answer equals `ruleCount()`.");
        size(0);
        size(1, "A->");
        size(8, "A->aA", "A->aB", "B->Ba", "B->CC", "C->", "C->", "A->", "B->b");

        CHECK.says("In phase BUILT the count is the sum of three parts:");
        RegApprox most = Given.built(6, 1, "A->BBBB", "B->CC", "C->D", "D->E", "E->F", "F->A", "A->A", "A->A");
        CHECK.due("eight rules, twelve symbols, all members", most.transformedRuleCount(), 8 + 12 + 6);

        CHECK.says("It changes nothing.");
        Unchanged.always(CHECK, "transformedRuleCount()", x -> x.transformedRuleCount());
    }

    private static void size(int due, String... rules) {
        RegApprox x = Given.built(3, 2, rules);
        CHECK.due(String.join(", ", rules) + ": transformedRuleCount()", x.transformedRuleCount(), due);
        if (!x.selfEmbedding()) {
            CHECK.due(String.join(", ", rules) + ": ruleCount()", x.ruleCount(), due);
        }
        Given.word(x, "ab");
        CHECK.due(String.join(", ", rules) + ": transformedRuleCount() later", x.transformedRuleCount(), due);
    }
}
