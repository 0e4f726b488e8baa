/** "What it is", sentence by sentence: symbols, languages, sets, kinds and the rewritten grammar G2. */
public final class GrammarTest {
    private static final int PLAIN = RegApprox.KIND_PLAIN;
    private static final int RIGHT = RegApprox.KIND_RIGHT;
    private static final int LEFT = RegApprox.KIND_LEFT;
    private static final int SELF = RegApprox.KIND_SELF;

    private static final Check CHECK = new Check("GrammarTest");

    public static void main(String[] args) {
        symbols();
        languages();
        sets();
        memberOccurrences();
        kinds();
        rewritten();
        CHECK.end();
    }

    private static void word(RegApprox x, String word, String want) {
        CHECK.word(Given.word(x, word), word.isEmpty() ? "empty" : word, want);
    }

    // ---- Symbols ----

    private static void symbols() {
        startSymbol();
        lengthsOfARule();
        copiesOfARule();
        withoutRule();
    }

    private static void startSymbol() {
        CHECK.says("Nonterminal 0 is the start symbol.");
        RegApprox x = Given.built(3, 3, "C->c", "B->b", "A->a");
        word(x, "", "- - live a");
        word(x, "a", "approx grammar live 0");
        word(x, "b", "- - - 0");
        word(x, "c", "- - - 0");
        RegApprox none = Given.built(2, 3, "B->b");
        word(none, "", "- - - 0");
        word(none, "b", "- - - 0");
    }

    private static void lengthsOfARule() {
        CHECK.says("A rule is A -> X1 .. Xk with 0 <= k <= `MAX_RHS`; k = 0 is the empty rule.");
        for (int length = 0; length <= 4; length++) {
            RegApprox x = Given.built(1, 2, "A->" + "a".repeat(length));
            for (int tokens = 0; tokens <= 5; tokens++) {
                String want = tokens > length ? "- - - 0" : tokens < length ? "- - live a" : "approx grammar live 0";
                word(x, "a".repeat(tokens), want);
            }
        }
    }

    private static void copiesOfARule() {
        CHECK.says("Identical rules may be entered more than once, and each copy counts as a rule.");
        RegApprox x = new RegApprox(1, 2);
        for (int copy = 0; copy < 8; copy++) {
            CHECK.due("rule(0)", x.rule(0), copy);
            CHECK.due("terminal(1)", x.terminal(1), 1);
            CHECK.due("ruleCount()", x.ruleCount(), copy + 1);
        }
        CHECK.due("a ninth copy", x.rule(0), RegApprox.ERR_FULL);
        CHECK.due("build()", x.build(), 1);
        CHECK.due("transformedRuleCount()", x.transformedRuleCount(), 8);
        word(x, "b", "approx grammar live 0");
    }

    private static void withoutRule() {
        CHECK.says("A nonterminal with no rule derives nothing.");
        RegApprox start = Given.built(2, 2, "B->a");
        word(start, "", "- - - 0");
        word(start, "a", "- - - 0");
        RegApprox used = Given.built(2, 2, "A->aB", "A->Ba", "A->BB", "A->b");
        word(used, "", "- - live b");
        word(used, "a", "- - - 0");
        word(used, "b", "approx grammar live 0");
        RegApprox alone = Given.built(2, 2, "A->B");
        word(alone, "", "- - - 0");
        word(alone, "a", "- - - 0");
    }

    // ---- Languages ----

    private static void languages() {
        CHECK.says("the language of A is the set of all finite strings of terminals that can be derived from A by "
                + "rewriting with the rules of H, any finite number of times.");
        String[] endless = {"A->aA", "A->Aa", "A->A", "A->AA", "A->aAb", "A->AAAA"};
        for (String rule : endless) {
            RegApprox x = Given.built(1, 2, rule);
            word(x, "", "- - - 0");
            word(x, "a", "- - - 0");
            word(x, "aaaaaaaaaaaa", "- - - 0");
        }
        RegApprox deep = Given.built(6, 2, "A->B", "B->C", "C->D", "D->E", "E->F", "F->b", "F->");
        word(deep, "", "approx grammar live b");
        word(deep, "b", "approx grammar live 0");
        RegApprox upwards = Given.built(6, 2, "A->F", "F->E", "E->D", "D->C", "C->B", "B->b", "B->");
        word(upwards, "", "approx grammar live b");
        word(upwards, "b", "approx grammar live 0");
        RegApprox circle = Given.built(3, 2, "A->B", "B->C", "C->A", "C->b");
        word(circle, "b", "approx grammar live 0");
        word(circle, "bb", "- - - 0");
        // The word falls apart in two ways, and only the shorter, or only the longer beginning leads to its end.
        RegApprox shorter = Given.built(3, 3, "A->BC", "B->a", "B->ab", "C->bc");
        word(shorter, "abc", "approx grammar live 0");
        word(shorter, "ab", "- - live bc");
        RegApprox longer = Given.built(3, 3, "A->BC", "B->a", "B->ab", "C->cb");
        word(longer, "abcb", "approx grammar live 0");
        word(longer, "ab", "- - live c");
        RegApprox between = Given.built(3, 3, "A->BbC", "B->a", "B->ab", "C->bc");
        word(between, "abbc", "approx grammar live 0");
        word(between, "abbbc", "approx grammar live 0");
        word(between, "abb", "- - live bc");
        RegApprox doubled = Given.built(6, 1, "A->BB", "B->CC", "C->DD", "D->EE", "E->FF", "F->", "F->a");
        for (int tokens = 0; tokens <= 12; tokens++) {
            word(doubled, "a".repeat(tokens), "approx grammar live a");
        }
    }

    // ---- Sets ----

    private static void sets() {
        CHECK.says("A uses B when some rule with left side A has B at least once on its right side.");
        for (String use : new String[] {"B", "Baaa", "aBaa", "aaBa", "aaaB", "BB", "BBBB", "aBCB"}) {
            sets("A->" + use, "AAC", "A->" + use, "B->A");
            sets("the second rule is A->" + use, "AAC", "A->a", "A->" + use, "B->", "B->A");
        }
        sets("no use but of a terminal of the same number", "AB", "A->b", "B->a");

        CHECK.says("A reaches B when there is a chain A = C0, C1, .., Cn = B with n >= 1 in which each Ci uses C(i+1).");
        sets("a chain of 1", "AA", "A->B", "B->A");
        sets("a chain of 2", "AAA", "A->B", "B->C", "C->A");
        sets("a chain of 2 the other way round", "AAA", "A->C", "C->B", "B->A");
        sets("a chain of 5", "AAAAAA", "A->B", "B->C", "C->D", "D->E", "E->F", "F->A");
        sets("a chain of 5 downwards", "AAAAAA", "A->F", "F->E", "E->D", "D->C", "C->B", "B->A");
        sets("a chain of 5 to and fro", "AAAAAA", "A->F", "F->B", "B->E", "E->C", "C->D", "D->A");
        sets("two circles joined in one", "AAAA", "A->B", "B->A", "B->C", "C->D", "D->B");

        CHECK.says("A and B are in the same set when A == B, or when A reaches B and B reaches A.");
        sets("neither reaches itself", "AB", "A->a", "B->b");
        sets("each reaches itself", "AB", "A->A", "B->B");
        sets("A reaches B alone", "AB", "A->BB", "B->bB");
        sets("B reaches A alone", "AB", "A->aA", "B->AA");
        sets("A reaches both", "ABC", "A->BC", "B->b", "C->a");
        sets("both reach A", "ABC", "A->a", "B->A", "C->A");
        sets("one after the other", "ABC", "A->B", "B->C", "C->a");
        sets("a way round and a way out", "AACA", "A->B", "B->D", "D->A", "D->C");
        sets("two circles, one uses the other", "ABBA", "A->DB", "D->A", "B->C", "C->B");

        CHECK.says("Every nonterminal 0..N-1, with rules or without, lies in exactly one set.");
        sets("no rules", "ABCDEF");
        sets("rules of one alone", "ABCDEF", "C->a");
        sets("used, without rules", "AACDEF", "A->BCDE", "B->A");
        sets("three pairs", "ABCABC", "A->D", "D->A", "B->E", "E->B", "C->F", "F->C");

        CHECK.says("The name of a set is its smallest member.");
        sets("the smallest entered last", "ABCBB", "E->D", "D->B", "B->E");
        sets("the last two", "ABCDEE", "F->E", "E->F");
        sets("all but the first", "ABBBBB", "F->E", "E->D", "D->C", "C->B", "B->F");
    }

    /** The names of the sets of A, B, .. in order. */
    private static void sets(String what, String names, String... rules) {
        RegApprox x = Given.entered(names.length(), 2, rules);
        CHECK.due(what + ": build()", x.build(), names.chars().distinct().count());
        for (int a = 0; a < names.length(); a++) {
            CHECK.due(what + ": setOf(" + a + ")", x.setOf(a), names.charAt(a) - 'A');
        }
    }

    private static void memberOccurrences() {
        CHECK.says("A member occurrence of a rule is a position on its right side that holds a member of the set of the "
                + "rule's left side.");
        members(0, 2, "A->aaBb", "B->b");
        members(1, 2, "A->aAab");
        members(1, 2, "A->aBab", "B->A");
        members(2, 2, "A->aBAb", "B->A");
        members(2, 3, "A->AaAC", "C->");
        members(3, 3, "A->BBAC", "B->A", "C->");
        members(4, 2, "A->BABA", "B->A");
    }

    /** The first rule's member occurrences, told by the size of G2 with the rule and with one more copy of it. */
    private static void members(int members, int nonterminals, String... rules) {
        String[] more = new String[rules.length + 1];
        System.arraycopy(rules, 0, more, 0, rules.length);
        more[rules.length] = rules[0];
        int once = Given.built(nonterminals, 2, rules).transformedRuleCount();
        int twice = Given.built(nonterminals, 2, more).transformedRuleCount();
        CHECK.due("rules of G2 for " + rules[0], twice - once, members + 1);
    }

    // ---- Kinds of a set ----

    private static void kinds() {
        CHECK.says("`KIND_PLAIN`: no rule whose left side is in the set has a member occurrence.");
        kinds("no rules", new int[] {PLAIN, PLAIN});
        kinds("no use at all", new int[] {PLAIN}, "A->ab");
        kinds("an empty rule", new int[] {PLAIN}, "A->");
        kinds("uses of other sets alone", new int[] {PLAIN, PLAIN}, "A->BaB", "B->b");
        kinds("used in the middle by another set alone", new int[] {PLAIN, PLAIN}, "A->aBa", "B->");
        kinds("one rule of many", new int[] {RIGHT}, "A->", "A->a", "A->aA");

        CHECK.says("`KIND_RIGHT`: every rule whose left side is in the set has either no member occurrence, or exactly "
                + "one, and that one is at the last position of its right side.");
        kinds("last of 2", new int[] {RIGHT}, "A->aA", "A->b");
        kinds("last of 4", new int[] {RIGHT}, "A->aaaA");
        kinds("last after another set", new int[] {RIGHT, PLAIN}, "A->BA", "B->b");
        kinds("two of one set, both last", new int[] {RIGHT, RIGHT}, "A->aB", "B->bA", "B->");
        kinds("one alone, one last", new int[] {RIGHT, RIGHT}, "A->B", "B->bA");
        kinds("one before the last", new int[] {SELF}, "A->aaAa");
        kinds("exactly two, one last", new int[] {SELF}, "A->aAA");
        kinds("the second rule is not last", new int[] {SELF}, "A->aA", "A->aAb", "A->aA");
        kinds("the other member's rule is not last", new int[] {SELF, SELF}, "A->aB", "B->aAb");

        CHECK.says("`KIND_LEFT`: every rule whose left side is in the set has either no member occurrence, or exactly "
                + "one, and that one is at the first position of its right side.");
        kinds("first of 2", new int[] {LEFT}, "A->Aa", "A->b");
        kinds("first of 4", new int[] {LEFT}, "A->Aaaa");
        kinds("first before another set", new int[] {LEFT, PLAIN}, "A->AB", "B->b");
        kinds("two of one set, both first", new int[] {LEFT, LEFT}, "A->Ba", "B->Ab", "B->");
        kinds("one alone, one first", new int[] {LEFT, LEFT}, "A->B", "B->Ab");
        kinds("one after the first", new int[] {SELF}, "A->aAaa");
        kinds("exactly two, one first", new int[] {SELF}, "A->AAa");
        kinds("the second rule is not first", new int[] {SELF}, "A->Aa", "A->bAa", "A->Aa");
        kinds("the other member's rule is not first", new int[] {SELF, SELF}, "A->Ba", "B->aAb");

        CHECK.says("`KIND_SELF`: any other set.");
        kinds("in the middle", new int[] {SELF}, "A->aAa");
        kinds("one first, one last", new int[] {SELF}, "A->aA", "A->Aa");
        kinds("one first, one last, of two members", new int[] {SELF, SELF}, "A->aB", "B->Ab", "B->");
        kinds("first and last in one rule", new int[] {SELF}, "A->AA", "A->a");
        kinds("four times", new int[] {SELF}, "A->AAAA");
        kinds("between other sets", new int[] {SELF, PLAIN}, "A->BAB", "B->b");
        kinds("before another set without rules", new int[] {SELF, PLAIN}, "A->aAB");
        kinds("around another set of its own kind", new int[] {SELF, RIGHT}, "A->aAB", "B->bB");

        CHECK.says("The kinds are considered in this order, and the first that holds is the kind of the set:");
        kinds("each kind beside the others", new int[] {PLAIN, RIGHT, LEFT, SELF, PLAIN}, "A->BCDE", "B->aB", "C->Ca",
                "D->aDa");
        kinds("plain, and right and left as well", new int[] {PLAIN}, "A->a", "A->");

        CHECK.says("Because of the order, a set that has at least one member occurrence, and in which every member "
                + "occurrence is both first and last (a right side of length 1), has kind `KIND_RIGHT`, not "
                + "`KIND_LEFT`.");
        kinds("itself alone", new int[] {RIGHT}, "A->A", "A->b");
        kinds("twice itself alone", new int[] {RIGHT}, "A->A", "A->A");
        kinds("each other alone", new int[] {RIGHT, RIGHT, RIGHT}, "A->B", "B->C", "C->A", "C->aa");
        kinds("alone, and once more first", new int[] {LEFT}, "A->A", "A->Ab");
        kinds("alone, and once more last", new int[] {RIGHT}, "A->A", "A->bA");
    }

    private static void kinds(String what, int[] kinds, String... rules) {
        RegApprox x = Given.built(kinds.length, 2, rules);
        for (int a = 0; a < kinds.length; a++) {
            CHECK.due(what + ": setKind(" + a + ")", x.setKind(a), kinds[a]);
        }
    }

    // ---- The rewritten grammar G2 ----

    private static void rewritten() {
        otherSetsStay();
        noMembers();
        someMembers();
        leftToRight();
        emptySequences();
        otherSymbolsStay();
        primedIsEmpty();
        noSelfEmbeddingSet();
        subset();
    }

    private static void otherSetsStay() {
        CHECK.says("(a) Every rule of G whose left side lies in a set that is not `KIND_SELF`, unchanged.");
        // Two copies of B, each wide on its own.
        RegApprox plain = Given.built(2, 3, "A->BcB", "B->aBb", "B->");
        word(plain, "", "- - live abc");
        word(plain, "c", "approx grammar live ab");
        word(plain, "abc", "approx grammar live ab");
        word(plain, "abbcaab", "approx - live b");
        word(plain, "bca", "approx - live ab");
        word(plain, "cba", "- - - 0");
        RegApprox right = Given.built(2, 4, "A->BdA", "A->", "B->aBb", "B->c");
        word(right, "acd", "approx - live ac");
        word(right, "acbdcd", "approx grammar live ac");
        word(right, "dc", "- - - 0");
        RegApprox left = Given.built(2, 4, "A->AdB", "A->", "B->aBb", "B->c");
        word(left, "dac", "approx - live bd");
        word(left, "dacbdc", "approx grammar live bd");
        word(left, "a", "- - - 0");
    }

    private static void noMembers() {
        CHECK.says("if m = 0, A -> a0 A'");
        // What may follow a finished A by the rule A->aAb may follow it here too: b.
        RegApprox x = Given.built(1, 4, "A->aAb", "A->cdcd", "A->");
        word(x, "", "approx grammar live abc");
        word(x, "cdcd", "approx grammar live b");
        word(x, "cdcdbb", "approx - live b");
        word(x, "bc", "- - - 0");
        word(x, "cdcdc", "- - - 0");
        // A rule as long as rules get, with A' as its fifth symbol, between others.
        RegApprox longest = Given.built(1, 4, "A->d", "A->cdcd", "A->aAb", "A->cccc");
        word(longest, "", "- - live acd");
        word(longest, "cdcd", "approx grammar live b");
        word(longest, "cccc", "approx grammar live b");
        word(longest, "d", "approx grammar live b");
        word(longest, "acdcdb", "approx grammar live b");
        word(longest, "accccbb", "approx - live b");
        word(longest, "cdcda", "- - - 0");
    }

    private static void someMembers() {
        CHECK.says("if m >= 1, A -> a0 B1, B1' -> a1 B2, .., B(m-1)' -> a(m-1) Bm, Bm' -> am A'.");
        RegApprox one = Given.built(1, 3, "A->aAb", "A->c");
        word(one, "", "- - live ac");
        word(one, "aa", "- - live ac");
        word(one, "aacbb", "approx grammar live b");
        word(one, "aacb", "approx - live b");
        word(one, "cbbb", "approx - live b");
        word(one, "aacba", "- - - 0");
        word(one, "b", "- - - 0");
        RegApprox two = Given.built(1, 2, "A->AaA", "A->b");
        word(two, "", "- - live b");
        word(two, "bab", "approx grammar live a");
        word(two, "ba", "- - live b");
        word(two, "bb", "- - - 0");
        // A->A, A'->bA, A'->A, A'->A': any number of c, and a c after every b.
        RegApprox three = Given.built(1, 3, "A->AbAA", "A->c");
        word(three, "", "- - live c");
        word(three, "cbcc", "approx grammar live bc");
        word(three, "cbc", "approx - live bc");
        word(three, "cc", "approx - live bc");
        word(three, "cb", "- - live c");
        word(three, "cbb", "- - - 0");
        RegApprox four = Given.built(1, 2, "A->AAAA", "A->b");
        word(four, "b", "approx grammar live b");
        word(four, "bb", "approx - live b");
        word(four, "bbbb", "approx grammar live b");
        word(four, "", "- - live b");
        // A->aB, B'->cA', B->A, A'->bB', B->dB': after d come c and b by turns, c first.
        RegApprox pair = Given.built(2, 4, "A->aBc", "B->Ab", "B->d");
        word(pair, "ad", "approx - live c");
        word(pair, "adc", "approx grammar live b");
        word(pair, "adcb", "approx - live c");
        word(pair, "aadcbc", "approx grammar live b");
        word(pair, "adb", "- - - 0");
        word(pair, "d", "- - - 0");
    }

    private static void leftToRight() {
        CHECK.says("Here B1..Bm (m >= 0) are the rule's member occurrences, left to right.");
        // A->aB, B'->bC, C'->A', and B->A, A'->B', C->A, A'->C': B comes first, C after it.
        RegApprox x = Given.built(3, 4, "A->aBbC", "B->A", "B->c", "C->A", "C->d");
        word(x, "", "- - live a");
        word(x, "a", "- - live ac");
        word(x, "ac", "approx - live b");
        word(x, "acb", "- - live ad");
        word(x, "acbd", "approx grammar live b");
        word(x, "acbdb", "- - live ad");
        word(x, "ad", "- - - 0");
        word(x, "acbc", "- - - 0");
    }

    private static void emptySequences() {
        CHECK.says("Each aj is the sequence (possibly empty) of the other symbols between them");
        // A->B, B'->A, A'->A' and B->A, A'->B, B'->B': whatever ends may go on.
        RegApprox x = Given.built(2, 2, "A->BA", "A->a", "B->AB", "B->b");
        word(x, "", "- - live ab");
        word(x, "ba", "approx grammar live ab");
        word(x, "a", "approx grammar live ab");
        word(x, "b", "approx - live ab");
        RegApprox ends = Given.built(1, 2, "A->AbA", "A->a");
        word(ends, "a", "approx grammar live b");
        word(ends, "aba", "approx grammar live b");
        word(ends, "aa", "- - - 0");
    }

    private static void otherSymbolsStay() {
        CHECK.says("these other symbols are terminals or nonterminals of other sets, and they are kept as they are, "
                + "unprimed.");
        // B's own set is rewritten as well: A keeps B, which stands for a..a c b..b.
        RegApprox nested = Given.built(2, 4, "A->dAB", "A->B", "B->aBb", "B->c");
        word(nested, "", "- - live acd");
        word(nested, "c", "approx grammar live abc");
        word(nested, "dcc", "approx grammar live abc");
        word(nested, "dc", "approx - live abc");
        word(nested, "acbb", "approx - live abc");
        word(nested, "cd", "- - - 0");
        word(nested, "ca", "- - live ac");
        RegApprox terminal = Given.built(3, 2, "A->aAa", "A->b");
        word(terminal, "aba", "approx grammar live a");
        word(terminal, "bb", "- - - 0");
    }

    private static void primedIsEmpty() {
        CHECK.says("(c) A' -> (empty), for every A that lies in a `KIND_SELF` set.");
        RegApprox one = Given.built(1, 3, "A->aAb", "A->c");
        word(one, "c", "approx grammar live b");
        // B' can end too, since B lies in the same set: A->aB, B->dB', B'->(empty).
        RegApprox other = Given.built(2, 4, "A->aBc", "B->Ab", "B->d");
        word(other, "ad", "approx - live c");
        // The set of a nonterminal without rules is plain: no B' and nothing derived.
        RegApprox without = Given.built(2, 2, "A->aAB", "A->B");
        word(without, "", "- - - 0");
        CHECK.due("transformedRuleCount()", without.transformedRuleCount(), 2 + 1 + 1);
        // A->B, B'->CA', B->A, A'->B', B->B', A->aA, A'->bA': L is empty, since C derives nothing, but B' can end
        // before C comes.
        RegApprox cut = Given.built(3, 2, "A->BC", "B->A", "B->", "A->aAb");
        word(cut, "", "approx - live a");
        word(cut, "aa", "approx - live a");
        word(cut, "ab", "- - - 0");
    }

    private static void noSelfEmbeddingSet() {
        CHECK.says("If no set has kind `KIND_SELF`, then G2 = G and L2 = L.");
        RegApprox x = Given.built(2, 3, "A->aA", "A->Bc", "B->Bb", "B->a");
        CHECK.due("transformedRuleCount()", x.transformedRuleCount(), 4);
        word(x, "", "- - live a");
        word(x, "a", "- - live abc");
        word(x, "aabb", "- - live bc");
        word(x, "aabbc", "approx grammar live 0");
        word(x, "aba", "- - - 0");
        RegApprox none = Given.built(1, 1);
        CHECK.due("no rules: transformedRuleCount()", none.transformedRuleCount(), 0);
        word(none, "", "- - - 0");
    }

    private static void subset() {
        CHECK.says("In every case L is a subset of L2.");
        String[][] grammars = {{"A->aAa", "A->bAb", "A->"}, {"A->aAb", "A->AA", "A->ab"}, {"A->AbA", "A->a", "A->"},
            {"A->aBa", "B->bAb", "B->b"}, {"A->BB", "B->aAb", "B->"}, {"A->aAB", "A->", "B->bBa", "B->ab"}};
        for (String[] rules : grammars) {
            RegApprox x = Given.built(2, 2, rules);
            int inGrammar = 0;
            for (int bits = 0; bits < 64; bits++) {
                for (int length = 0; length <= 6; length++) {
                    x.clearInput();
                    for (int i = 0; i < length; i++) {
                        x.feed(bits >> i & 1);
                    }
                    if (x.grammarAccepts()) {
                        inGrammar++;
                        CHECK.due(String.join(", ", rules) + ": approxAccepts()", x.approxAccepts(), true);
                    }
                }
            }
            CHECK.due(String.join(", ", rules) + ": a word of L was seen", inGrammar > 0, true);
        }
    }
}
