/** Promises 14 to 17, with answers found by hand. */
public final class WordsTest {
    private static final Check CHECK = new Check("WordsTest");

    public static void main(String[] args) {
        beforeBuild();
        notSelfEmbedding();
        selfEmbedding();
        emptyLanguages();
        emptyStrings();
        otherSets();
        longCompletions();
        fullInput();
        gettersChangeNothing();
        CHECK.end();
    }

    private static void word(RegApprox x, String word, String want) {
        CHECK.word(Given.word(x, word), word.isEmpty() ? "empty" : word, want);
    }

    private static void beforeBuild() {
        CHECK.word(new RegApprox(1, 1), "EDIT, no rules", "- - - -1");
        RegApprox x = Given.entered(1, 1, "A->", "A->aA");
        CHECK.word(x, "EDIT, the empty string derived", "- - - -1");
        x.build();
        CHECK.word(x, "the same one built", "approx grammar live a");
    }

    private static void notSelfEmbedding() {
        RegApprox x = Given.built(2, 3, "A->aA", "A->Bc", "B->Bb", "B->a");
        word(x, "", "- - live a");
        word(x, "a", "- - live abc");
        word(x, "aabb", "- - live bc");
        word(x, "aabbc", "approx grammar live 0");
        word(x, "ab", "- - live bc");
        word(x, "ac", "approx grammar live 0");
        word(x, "aba", "- - - 0");
        RegApprox unit = Given.built(2, 2, "A->A", "A->B", "B->B", "B->b");
        word(unit, "", "- - live b");
        word(unit, "b", "approx grammar live 0");
        word(unit, "bb", "- - - 0");
    }

    private static void selfEmbedding() {
        RegApprox brackets = Given.built(1, 3, "A->aAb", "A->c");
        word(brackets, "", "- - live ac");
        word(brackets, "aa", "- - live ac");
        word(brackets, "c", "approx grammar live b");
        word(brackets, "aacb", "approx - live b");
        word(brackets, "aacbb", "approx grammar live b");
        word(brackets, "cbbb", "approx - live b");
        word(brackets, "aacba", "- - - 0");
        word(brackets, "b", "- - - 0");
        RegApprox palindromes = Given.built(1, 3, "A->aAa", "A->bAb", "A->");
        word(palindromes, "", "approx grammar live ab");
        word(palindromes, "abba", "approx grammar live ab");
        word(palindromes, "abb", "approx - live ab");
        word(palindromes, "abc", "- - - 0");
        RegApprox twice = Given.built(1, 2, "A->AaA", "A->b");
        word(twice, "", "- - live b");
        word(twice, "bab", "approx grammar live a");
        word(twice, "ba", "- - live b");
        word(twice, "bb", "- - - 0");
        word(twice, "bababab", "approx grammar live a");
        // A->aB, B'->cA', B->A, A'->bB', B->dB': after d come b and c by turns, c first, none of them due.
        RegApprox pair = Given.built(2, 4, "A->aBc", "B->Ab", "B->d");
        word(pair, "aad", "approx - live c");
        word(pair, "ad", "approx - live c");
        word(pair, "adc", "approx grammar live b");
        word(pair, "adcb", "approx - live c");
        word(pair, "aadcbc", "approx grammar live b");
        word(pair, "aaaadc", "approx - live b");
        word(pair, "adb", "- - - 0");
        word(pair, "d", "- - - 0");
    }

    private static void emptyLanguages() {
        String[] nothing = {"A->aA", "A->aAb", "A->Aa", "A->A", "A->AA", "A->aB", "B->a", "A->BA"};
        for (String rule : nothing) {
            RegApprox x = Given.built(2, 2, rule);
            word(x, "", "- - - 0");
            word(x, "a", "- - - 0");
            word(x, "ab", "- - - 0");
        }
        // L is empty, since C derives nothing; the rewriting cuts C off, so that L2 is a..ac.
        RegApprox cut = Given.built(3, 3, "A->aBC", "B->Ab", "B->c");
        word(cut, "", "- - live a");
        word(cut, "a", "- - live ac");
        word(cut, "aac", "approx - live 0");
        word(cut, "aacb", "- - - 0");
        // A token whose branch derives nothing does not keep w completable.
        RegApprox branch = Given.built(2, 3, "A->aA", "A->bB", "A->c");
        word(branch, "", "- - live ac");
        word(branch, "b", "- - - 0");
        word(branch, "aac", "approx grammar live 0");
    }

    private static void emptyStrings() {
        RegApprox only = Given.built(1, 2, "A->");
        word(only, "", "approx grammar live 0");
        word(only, "a", "- - - 0");
        RegApprox hidden = Given.built(3, 2, "A->BCB", "B->", "C->BB", "C->b");
        word(hidden, "", "approx grammar live b");
        word(hidden, "b", "approx grammar live 0");
        word(hidden, "bb", "- - - 0");
        RegApprox around = Given.built(2, 2, "A->BAB", "A->a", "B->", "B->b");
        word(around, "", "- - live ab");
        word(around, "bbab", "approx grammar live b");
        word(around, "a", "approx grammar live b");
        word(around, "aa", "- - - 0");
        RegApprox all = Given.built(1, 2, "A->AA", "A->", "A->a");
        word(all, "", "approx grammar live a");
        word(all, "aaaaaaaa", "approx grammar live a");
        word(all, "aab", "- - - 0");
    }

    private static void otherSets() {
        // B's own set is rewritten too, and A keeps B unprimed: c stands for a..a c b..b.
        RegApprox nested = Given.built(2, 4, "A->dAB", "A->B", "B->aBb", "B->c");
        word(nested, "", "- - live acd");
        word(nested, "c", "approx grammar live abc");
        word(nested, "dcc", "approx grammar live abc");
        word(nested, "dc", "approx - live abc");
        word(nested, "acb", "approx grammar live abc");
        word(nested, "acbb", "approx - live abc");
        word(nested, "cd", "- - - 0");
        word(nested, "ca", "- - live ac");
        // A plain set over a rewritten one: two copies of it, each wide on its own.
        RegApprox over = Given.built(2, 3, "A->BcB", "B->aBb", "B->");
        word(over, "", "- - live abc");
        word(over, "abc", "approx grammar live ab");
        word(over, "c", "approx grammar live ab");
        word(over, "abbcaab", "approx - live b");
        word(over, "bca", "approx - live ab");
        word(over, "cba", "- - - 0");
        // Copies of a rule change nothing but the counts.
        RegApprox copies = Given.built(1, 3, "A->aAb", "A->aAb", "A->c", "A->c");
        word(copies, "acb", "approx grammar live b");
    }

    private static void longCompletions() {
        // The one word has 64 tokens, more than w can ever hold.
        RegApprox x = Given.built(3, 2, "A->BBBB", "B->CCCC", "C->aaaa");
        StringBuilder word = new StringBuilder();
        for (int i = 0; i <= 12; i++) {
            word(x, word.toString(), "- - live a");
            word.append('a');
        }
        word(x, "ab", "- - - 0");
    }

    private static void fullInput() {
        RegApprox twelve = Given.built(2, 2, "A->BBBB", "B->aaa");
        word(twelve, "aaaaaaaaaaa", "- - live a");
        word(twelve, "aaaaaaaaaaaa", "approx grammar live 0");
        RegApprox thirteen = Given.built(3, 4, "A->BBBC", "B->aaa", "C->aaad");
        word(thirteen, "aaaaaaaaaaaa", "- - live d");
        word(thirteen, "aaaaaaaaaaab", "- - - 0");
        RegApprox any = Given.built(2, 4, "A->BA", "A->", "B->a", "B->b", "B->c", "B->d");
        word(any, "abcdabcdabcd", "approx grammar live abcd");
        RegApprox pair = Given.built(1, 2, "A->aAb", "A->");
        word(pair, "aaaaaabbbbbb", "approx grammar live b");
        word(pair, "aaaaaabbbbba", "- - - 0");
        word(pair, "aaaaaaaaaaaa", "approx - live ab");
    }

    private static void gettersChangeNothing() {
        RegApprox x = Given.built(1, 3, "A->aAb", "A->c");
        Given.word(x, "aacb");
        for (int i = 0; i < 3; i++) {
            CHECK.due("nextMask()", x.nextMask(), 2);
            CHECK.due("approxLive()", x.approxLive(), true);
            CHECK.due("grammarAccepts()", x.grammarAccepts(), false);
            CHECK.due("approxAccepts()", x.approxAccepts(), true);
            CHECK.due("inputLength()", x.inputLength(), 4);
            CHECK.due("ruleCount()", x.ruleCount(), 2);
            CHECK.due("transformedRuleCount()", x.transformedRuleCount(), 4);
        }
        CHECK.due("feed(1) after the getters", x.feed(1), 5);
        CHECK.due("grammarAccepts() after the getters", x.grammarAccepts(), true);
    }
}
