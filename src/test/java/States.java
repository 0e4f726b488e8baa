import java.util.ArrayList;
import java.util.List;
import java.util.function.Supplier;

/** States to make a call in, each made anew whenever it is asked for. All have 3 nonterminals and 2 terminals. */
final class States {
    static final int N = 3;
    static final int T = 2;

    /** A rule is open, and there is room for a symbol and for a rule. */
    static final String[][] ROOM = {{"A->"}, {"A->aAb", "A->bB", "B->a"}, {"B->b", "A->aBa"}, {"A->aA", "A->C", "C->ab"},
        {"A->aaaa", "B->bbbb", "A->aB", "C->b"}};

    /** The current rule has four symbols, there is room for a symbol in another. */
    static final String[][] RIGHT_SIDE_FULL = {{"B->b", "A->aBab"}, {"A->a", "A->bC", "C->bCaa"}};

    /** Twelve symbols, the current rule has 0, 1 or 2 of them. */
    static final String[][] SYMBOLS_FULL = {{"A->aaaa", "B->bbbb", "A->aCCb", "A->"},
        {"A->aaaa", "B->bbbb", "A->aB", "A->C", "C->b"}, {"A->aAb", "A->aB", "B->bBaB", "B->", "A->C", "C->ba"}};

    /** Four symbols in the current rule and twelve in all. */
    static final String[][] BOTH_FULL = {{"A->aaaa", "B->bbbb", "A->abBa"}};

    /** The last rule is open: with 7, 10, 11 and 12 symbols in all, with 4 in the last rule. */
    static final String[][] EIGHT_RULES = {{"A->aA", "B->", "C->b", "A->C", "A->C", "B->", "C->", "A->ab"},
        {"A->aAb", "A->bB", "A->", "B->aC", "B->", "A->CC", "A->", "C->b"},
        {"A->aAb", "A->bB", "A->", "B->aC", "B->", "A->CCa", "A->", "C->b"},
        {"A->aAb", "A->bB", "A->", "B->aC", "B->", "A->CCaa", "A->", "C->b"},
        {"A->aAb", "A->", "B->", "B->", "C->", "C->", "A->C", "C->bbab"}};

    /** Words of length 0, 1, 3, 11 and 12, most of them begun or in the language of some of the grammars. */
    static final String[] WORDS = {"", "a", "bab", "aaaaaabbbbb", "aaaaaabbbbbb"};

    private States() {
    }

    static Supplier<RegApprox> edit(String... rules) {
        return () -> Given.entered(N, T, rules);
    }

    static Supplier<RegApprox> built(String word, String... rules) {
        return () -> Given.fed(Given.built(N, T, rules), word);
    }

    /** Every grammar of the lists above, and the one without rules. */
    static List<String[]> grammars() {
        List<String[]> all = new ArrayList<>();
        all.add(new String[0]);
        for (String[][] list : List.of(ROOM, RIGHT_SIDE_FULL, SYMBOLS_FULL, BOTH_FULL, EIGHT_RULES)) {
            all.addAll(List.of(list));
        }
        return all;
    }
}
