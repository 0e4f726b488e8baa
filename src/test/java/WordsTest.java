import java.util.function.Consumer;
import java.util.function.Predicate;
import java.util.function.Supplier;

/** Promises 14 to 17, sentence by sentence, with answers found by hand. What L and L2 are is tested in GrammarTest. */
public final class WordsTest {
    private static final String TWELVE = "aaaaaabbbbbb";
    private static final String[] BRACKETS = {"A->aAb", "A->c"};

    // Each has a set that is self-embedding or an end that L2 and L have in common, in another way than the others.
    private static final String[][] GRAMMARS = {{}, {"A->"}, {"A->aA"}, {"A->aA", "A->"}, {"A->abc"}, {"A->aB", "A->b"},
        BRACKETS, {"A->aAa", "A->bAb", "A->"}, {"A->AbA", "A->a", "A->cB", "B->"}, {"A->aBc", "B->Ab", "B->b"},
        {"A->BcB", "B->aBb", "B->"}, {"A->BC", "B->A", "B->", "A->aAb"}, {"A->Ab", "A->B", "B->aB", "B->c"}};

    private static final Check CHECK = new Check("WordsTest");

    public static void main(String[] args) {
        approxAccepts();
        grammarAccepts();
        approxLive();
        nextMask();
        CHECK.end();
    }

    private static Supplier<RegApprox> edit(String... rules) {
        return () -> Given.entered(3, 3, rules);
    }

    private static Supplier<RegApprox> built(String word, String... rules) {
        return () -> Given.fed(Given.built(3, 3, rules), word);
    }

    private static void answers(String call, Predicate<RegApprox> asked, boolean due, String word, String... rules) {
        CHECK.due(String.join(", ", rules) + " w=" + word + ": " + call, asked.test(built(word, rules).get()), due);
    }

    private static void falseInEdit(String call, Predicate<RegApprox> asked) {
        CHECK.says("In phase EDIT it answers false.");
        CHECK.due("EDIT, no rules: " + call, asked.test(edit().get()), false);
        CHECK.due("EDIT, the empty string derived: " + call, asked.test(edit("A->").get()), false);
        RegApprox x = edit("A->", "A->a").get();
        x.feed(0);
        CHECK.due("EDIT, after a refused feed(0): " + call, asked.test(x), false);
        x.build();
        CHECK.due("the same one BUILT: " + call, asked.test(x), true);
    }

    private static void changesNothing(String call, Predicate<RegApprox> asked) {
        CHECK.says("It changes nothing.");
        Unchanged.always(CHECK, call, x -> asked.test(x) ? 1 : 0);
    }

    // ---- Promise 14 ----

    private static void approxAccepts() {
        Predicate<RegApprox> asked = RegApprox::approxAccepts;
        CHECK.says("`approxAccepts()` answers true exactly when the phase is BUILT and w is in L2, the approximating "
                + "language.");
        answers("approxAccepts()", asked, true, "acb", BRACKETS);
        answers("approxAccepts()", asked, true, "aac", BRACKETS);
        answers("approxAccepts()", asked, true, "cb", BRACKETS);
        answers("approxAccepts()", asked, false, "aa", BRACKETS);
        answers("approxAccepts()", asked, false, "cc", BRACKETS);
        answers("approxAccepts()", asked, false, "bc", BRACKETS);
        answers("approxAccepts()", asked, true, "acbbbbbbbbbb", BRACKETS);
        answers("approxAccepts()", asked, false, "acbbbbbbbbba", BRACKETS);

        falseInEdit("approxAccepts()", asked);

        CHECK.says("With w empty, it answers whether the empty string is in L2.");
        answers("approxAccepts()", asked, false, "");
        answers("approxAccepts()", asked, true, "", "A->");
        answers("approxAccepts()", asked, false, "", "A->a", "B->");
        answers("approxAccepts()", asked, false, "", "A->aB", "B->");
        answers("approxAccepts()", asked, true, "", "A->BCB", "B->", "C->BB");
        answers("approxAccepts()", asked, true, "", "A->aAb", "A->");
        answers("approxAccepts()", asked, false, "", BRACKETS);
        answers("approxAccepts()", asked, true, "", "A->BC", "B->A", "B->", "A->aAb");
        RegApprox x = built("cc", "A->aAb", "A->").get();
        x.clearInput();
        CHECK.due("w cleared: approxAccepts()", x.approxAccepts(), true);

        changesNothing("approxAccepts()", asked);
    }

    // ---- Promise 15 ----

    private static void grammarAccepts() {
        Predicate<RegApprox> asked = RegApprox::grammarAccepts;
        CHECK.says("`grammarAccepts()` answers true exactly when the phase is BUILT and w is in L, the language of the "
                + "grammar as entered.");
        answers("grammarAccepts()", asked, true, "aacbb", BRACKETS);
        answers("grammarAccepts()", asked, false, "aacb", BRACKETS);
        answers("grammarAccepts()", asked, false, "aacbbb", BRACKETS);
        answers("grammarAccepts()", asked, false, "acbc", BRACKETS);
        answers("grammarAccepts()", asked, true, TWELVE, "A->aAb", "A->");
        answers("grammarAccepts()", asked, false, "aaaaaabbbbba", "A->aAb", "A->");
        answers("grammarAccepts()", asked, false, "aaaaaaabbbbb", "A->aAb", "A->");
        answers("grammarAccepts()", asked, true, "abba", "A->aAa", "A->bAb", "A->");
        answers("grammarAccepts()", asked, false, "abb", "A->aAa", "A->bAb", "A->");

        falseInEdit("grammarAccepts()", asked);

        CHECK.says("With w empty, it answers whether the empty string is in L.");
        answers("grammarAccepts()", asked, false, "");
        answers("grammarAccepts()", asked, true, "", "A->");
        answers("grammarAccepts()", asked, false, "", "A->a", "B->");
        answers("grammarAccepts()", asked, false, "", "A->aB", "B->");
        answers("grammarAccepts()", asked, true, "", "A->BCB", "B->", "C->BB");
        answers("grammarAccepts()", asked, true, "", "A->aAb", "A->");
        answers("grammarAccepts()", asked, false, "", "A->BC", "B->A", "B->", "A->aAb");
        RegApprox x = built("cc", "A->aAb", "A->").get();
        x.clearInput();
        CHECK.due("w cleared: grammarAccepts()", x.grammarAccepts(), true);

        changesNothing("grammarAccepts()", asked);
        acceptedByBoth();
    }

    private static void acceptedByBoth() {
        CHECK.says("Since L is a subset of L2, whenever `grammarAccepts()` answers true, `approxAccepts()` answers true "
                + "as well.");
        for (String[] rules : GRAMMARS) {
            everyWord(rules, x -> CHECK.due("grammarAccepts() without approxAccepts() of " + String.join(", ", rules),
                    x.grammarAccepts() && !x.approxAccepts(), false));
        }
        CHECK.says("When `selfEmbedding()` answers false, G2 = G, so `approxAccepts()` and `grammarAccepts()` always give "
                + "the same answer.");
        for (String[] rules : GRAMMARS) {
            if (!Given.built(3, 3, rules).selfEmbedding()) {
                everyWord(rules, x -> CHECK.due("approxAccepts() of " + String.join(", ", rules), x.approxAccepts(),
                        x.grammarAccepts()));
            }
        }
    }

    /** All words of up to three tokens, and all that end in up to three after eight: lengths 8 to 11. */
    private static void everyWord(String[] rules, Consumer<RegApprox> look) {
        for (String begin : new String[] {"", "aaaaaaaa", "aaaacbbb", "aaaabbbb", "abababab"}) {
            for (int number = 0; number < 40; number++) {
                RegApprox x = built(begin, rules).get();
                // The digits of the number to base 3, each digit 1 to 3: every word of up to 3 tokens once.
                for (int rest = number; rest > 0; rest = (rest - 1) / 3) {
                    x.feed((rest - 1) % 3);
                }
                look.accept(x);
            }
        }
    }

    // ---- Promise 16 ----

    private static void approxLive() {
        Predicate<RegApprox> asked = RegApprox::approxLive;
        CHECK.says("`approxLive()` answers true exactly when the phase is BUILT and there is some finite string v");
        answers("approxLive()", asked, true, "", BRACKETS);
        answers("approxLive()", asked, true, "aaa", BRACKETS);
        answers("approxLive()", asked, false, "b", BRACKETS);
        answers("approxLive()", asked, false, "aacba", BRACKETS);
        answers("approxLive()", asked, false, "");
        answers("approxLive()", asked, false, "", "A->aA");
        answers("approxLive()", asked, false, "a", "A->aA");
        answers("approxLive()", asked, false, "b", "A->bB", "A->a");
        answers("approxLive()", asked, true, "", "A->aBC", "B->Ab", "B->c");
        answers("approxLive()", asked, false, "aacb", "A->aBC", "B->Ab", "B->c");

        CHECK.says("(possibly empty");
        answers("approxLive()", asked, true, "", "A->");
        answers("approxLive()", asked, true, "abc", "A->abc");
        answers("approxLive()", asked, false, "abca", "A->abc");
        answers("approxLive()", asked, true, "aaaaaaaaaaaa", "A->BBBB", "B->aaa");

        CHECK.says("of any length, with no bound from `MAX_INPUT`) such that w followed by v is in L2.");
        longCompletions("A->BBB", "B->CCC", "C->DDD", "D->aaa");
        longCompletions("A->BBBB", "B->CCCC", "C->aaaa");
        longCompletions("A->BBBa", "B->aaaa");
        answers("approxLive()", asked, false, "aaaaaaaaaaaa", "A->BBBa", "B->aaa");
        answers("approxLive()", asked, false, "aaaaaaaaaaab", "A->BBBa", "B->aaaa");

        falseInEdit("approxLive()", asked);

        CHECK.says("Whenever `approxAccepts()` answers true, `approxLive()` answers true too (take v empty).");
        for (String[] rules : GRAMMARS) {
            everyWord(rules, x -> CHECK.due("approxAccepts() without approxLive() of " + String.join(", ", rules),
                    x.approxAccepts() && !x.approxLive(), false));
        }

        changesNothing("approxLive()", asked);
    }

    /** The one word is longer than w can ever be. */
    private static void longCompletions(String... rules) {
        RegApprox x = Given.built(4, 2, rules);
        for (int length = 0; length <= 12; length++) {
            CHECK.word(Given.word(x, "a".repeat(length)), String.join(", ", rules) + ": a..", "- - live a");
        }
        CHECK.word(Given.word(x, "ab"), String.join(", ", rules) + ": ab", "- - - 0");
    }

    // ---- Promise 17 ----

    private static void nextMask() {
        CHECK.says("`nextMask()` answers `ERR_PHASE` in phase EDIT.");
        CHECK.due("EDIT, no rules: nextMask()", edit().get().nextMask(), RegApprox.ERR_PHASE);
        CHECK.due("EDIT: nextMask()", edit("A->aA", "A->").get().nextMask(), RegApprox.ERR_PHASE);

        CHECK.says("Otherwise it answers the sum of 2 to the power t, over every terminal t in 0..T-1 for which some "
                + "finite string v (possibly empty) makes w t v a string of L2.");
        mask(0b101, "", BRACKETS);
        mask(0b101, "aa", BRACKETS);
        mask(0b010, "c", BRACKETS);
        mask(0b010, "acbb", BRACKETS);
        mask(0b100, "", "A->c");
        mask(0b000, "c", "A->c");
        mask(0b001, "", "A->a", "A->bB", "A->cB", "A->Bc", "C->c");
        mask(0b101, "", "A->a", "A->bB", "A->cC", "C->");

        bits();
        fullInput();
        nothingToComeNext();
        deadInput();
        sameAsFeeding();

        CHECK.says("It changes nothing.");
        Unchanged.always(CHECK, "nextMask()", x -> x.nextMask());
    }

    private static void mask(int due, String word, String... rules) {
        CHECK.due(String.join(", ", rules) + " w=" + word + ": nextMask()", built(word, rules).get().nextMask(), due);
    }

    private static void bits() {
        CHECK.says("The answer is in 0..15, and no bit at a position T or above is ever set.");
        for (int terminals = 1; terminals <= 4; terminals++) {
            RegApprox x = new RegApprox(2, terminals);
            x.rule(0);
            x.rule(0);
            x.nonterminal(1);
            x.nonterminal(0);
            for (int t = 0; t < terminals; t++) {
                x.rule(1);
                x.terminal(t);
            }
            x.build();
            for (int length = 0; length <= 12; length++) {
                CHECK.due("every token of " + terminals + ": nextMask()", x.nextMask(), (1 << terminals) - 1);
                x.feed(length % terminals);
            }
        }
    }

    private static void fullInput() {
        CHECK.says("This holds even when w is full: the answer does not depend on `MAX_INPUT`.");
        mask(0b010, TWELVE, "A->aAb", "A->");
        mask(0b011, "aaaaaaaaaaaa", "A->aAb", "A->");
        mask(0b000, "aaaaaaaaaaaa", "A->BBBB", "B->aaa");
        mask(0b100, "aaaaaaaaaaaa", "A->BBBC", "B->aaa", "C->aaac");
        mask(0b000, "aaaaaabbbbba", "A->aAb", "A->");
        mask(0b111, "abcabcabcabc", "A->aA", "A->bA", "A->cA", "A->");
    }

    private static void nothingToComeNext() {
        CHECK.says("in phase BUILT `nextMask()` is 0 exactly when no one-token extension of w can be completed into a "
                + "string of L2");
        CHECK.word(built("", "A->").get(), "A->: empty", "approx grammar live 0");
        CHECK.word(built("abc", "A->abc").get(), "A->abc: abc", "approx grammar live 0");
        CHECK.word(built("").get(), "no rules: empty", "- - - 0");
        CHECK.word(built("aac", "A->aBC", "B->Ab", "B->c").get(), "A->aBC, B->Ab | c: aac", "approx - live 0");
    }

    private static void deadInput() {
        CHECK.says("in particular, in phase BUILT it is 0 whenever `approxLive()` answers false.");
        for (String[] rules : GRAMMARS) {
            everyWord(rules, x -> CHECK.due("approxLive() or nextMask() == 0 of " + String.join(", ", rules),
                    x.approxLive() || x.nextMask() == 0, true));
        }
        mask(0b000, "b", "A->aA", "A->");
        mask(0b000, "baaaaaaaaaaa", "A->aA", "A->");
    }

    private static void sameAsFeeding() {
        CHECK.says("In phase BUILT, when `inputLength()` < `MAX_INPUT`, for every t in 0..T-1, bit t of `nextMask()` is "
                + "set exactly when `approxLive()` would answer true right after a call `feed(t)`.");
        for (String[] rules : GRAMMARS) {
            for (String word : new String[] {"", "a", "b", "c", "ab", "aac", "acbb", "aaaaaaaaaaa", "aaaaacbbbbb"}) {
                int mask = built(word, rules).get().nextMask();
                for (int t = 0; t < 3; t++) {
                    RegApprox x = built(word, rules).get();
                    x.feed(t);
                    CHECK.due(String.join(", ", rules) + " w=" + word + ": approxLive() after feed(" + t + ")",
                            x.approxLive(), (mask >> t & 1) == 1);
                }
            }
        }
    }
}
