public final class RegApprox {
    public static final int MIN_NONTERMINALS = 1;
    public static final int MAX_NONTERMINALS = 6;
    public static final int MIN_TERMINALS = 1;
    public static final int MAX_TERMINALS = 4;
    public static final int MAX_RULES = 8;
    public static final int MAX_RHS = 4;
    public static final int MAX_SYMBOLS = 12;
    public static final int MAX_INPUT = 12;

    public static final int OK = 0;
    public static final int ERR_PHASE = -1;
    public static final int ERR_RANGE = -2;
    public static final int ERR_FULL = -3;
    public static final int ERR_NO_RULE = -4;

    public static final int KIND_PLAIN = 0;
    public static final int KIND_RIGHT = 1;
    public static final int KIND_LEFT = 2;
    public static final int KIND_SELF = 3;

    // A symbol is one int: A is A itself, A' is PRIME + A, and terminal t is FIRST_TERMINAL + t.
    private static final int PRIME = MAX_NONTERMINALS;
    private static final int FIRST_TERMINAL = 2 * MAX_NONTERMINALS;

    // A rule of a KIND_SELF set without member occurrences is one symbol longer in G2: A' at its end.
    private static final int RULE_WIDTH = MAX_RHS + 1;

    // Each rule of G gives one rule of G2 and one more for each member occurrence; each A' adds one.
    private static final int MAX_REWRITTEN = MAX_RULES + MAX_SYMBOLS + MAX_NONTERMINALS;
    private static final int TABLE_RULES = MAX_RULES + MAX_REWRITTEN;
    private static final int TABLE_SYMBOLS = TABLE_RULES * RULE_WIDTH;

    // One place beyond a full w, where each token is tried that could come next.
    private static final int TEXT_SIZE = MAX_INPUT + 1;
    private static final int POSITIONS = TEXT_SIZE + 1;
    private static final int END_SETS = FIRST_TERMINAL * POSITIONS;

    // A pass that changes something adds an end to a nonterminal; the last pass changes nothing.
    private static final int MAX_PASSES = END_SETS + 1;

    private final int nonterminals;
    private final int terminals;
    private boolean built = false;

    // Rules 0..ruleTotal-1 are G; rules MAX_RULES..rewrittenEnd-1 are G2.
    private final int[] lhsOf = new int[TABLE_RULES];
    private final int[] lengthOf = new int[TABLE_RULES];
    private final int[] symbolAt = new int[TABLE_SYMBOLS];
    private int ruleTotal = 0;
    private int symbolTotal = 0;
    private int rewrittenEnd = MAX_RULES;

    // Bit b of reachedFrom[a] says that a reaches b.
    private final int[] reachedFrom = new int[MAX_NONTERMINALS];
    private final int[] setName = new int[MAX_NONTERMINALS];
    private final int[] kindOf = new int[MAX_NONTERMINALS];

    private final int[] text = new int[TEXT_SIZE];
    private int textLength = 0;

    // Bit j of ends[a * POSITIONS + i] says that a derives the text from position i up to j.
    private final int[] ends = new int[END_SETS];

    // The answers about w are found when w changes, so that no getter has to change anything.
    private boolean inApprox = false;
    private boolean inGrammar = false;
    private boolean completable = false;
    private int followers = 0;

    public RegApprox(int nonterminals, int terminals) {
        this.nonterminals = clamp(nonterminals, MIN_NONTERMINALS, MAX_NONTERMINALS);
        this.terminals = clamp(terminals, MIN_TERMINALS, MAX_TERMINALS);
    }

    public int rule(int lhs) {
        if (built) {
            return ERR_PHASE;
        }
        if (lhs < 0 || lhs >= nonterminals) {
            return ERR_RANGE;
        }
        if (ruleTotal >= MAX_RULES) {
            return ERR_FULL;
        }
        lhsOf[ruleTotal] = lhs;
        lengthOf[ruleTotal] = 0;
        ruleTotal++;
        return ruleTotal - 1;
    }

    public int terminal(int t) {
        return enterSymbol(t, terminals, FIRST_TERMINAL);
    }

    public int nonterminal(int a) {
        return enterSymbol(a, nonterminals, 0);
    }

    public int ruleCount() {
        return ruleTotal;
    }

    public int build() {
        if (built) {
            return ERR_PHASE;
        }
        built = true;
        findReached();
        int sets = nameSets();
        findKinds();
        rewrite();
        answerQuestions();
        return sets;
    }

    public int setOf(int a) {
        if (!built) {
            return ERR_PHASE;
        }
        if (a < 0 || a >= nonterminals) {
            return ERR_RANGE;
        }
        return setName[a];
    }

    public int setKind(int a) {
        if (!built) {
            return ERR_PHASE;
        }
        if (a < 0 || a >= nonterminals) {
            return ERR_RANGE;
        }
        return kindOf[a];
    }

    public boolean selfEmbedding() {
        if (!built) {
            return false;
        }
        for (int a = 0; a < nonterminals; a++) {
            if (kindOf[a] == KIND_SELF) {
                return true;
            }
        }
        return false;
    }

    public int transformedRuleCount() {
        if (!built) {
            return ERR_PHASE;
        }
        return rewrittenEnd - MAX_RULES;
    }

    public int feed(int t) {
        if (!built) {
            return ERR_PHASE;
        }
        if (t < 0 || t >= terminals) {
            return ERR_RANGE;
        }
        if (textLength >= MAX_INPUT) {
            return ERR_FULL;
        }
        text[textLength] = t;
        textLength++;
        answerQuestions();
        return textLength;
    }

    public int clearInput() {
        if (!built) {
            return ERR_PHASE;
        }
        textLength = 0;
        answerQuestions();
        return OK;
    }

    public int inputLength() {
        return textLength;
    }

    public boolean approxAccepts() {
        return built && inApprox;
    }

    public boolean grammarAccepts() {
        return built && inGrammar;
    }

    public boolean approxLive() {
        return built && completable;
    }

    public int nextMask() {
        if (!built) {
            return ERR_PHASE;
        }
        return followers;
    }

    private static int clamp(int value, int low, int high) {
        if (value < low) {
            return low;
        }
        if (value > high) {
            return high;
        }
        return value;
    }

    // ---- Entry of G ----

    private int enterSymbol(int value, int bound, int firstCode) {
        if (built) {
            return ERR_PHASE;
        }
        if (ruleTotal == 0) {
            return ERR_NO_RULE;
        }
        if (value < 0 || value >= bound) {
            return ERR_RANGE;
        }
        int current = ruleTotal - 1;
        if (lengthOf[current] >= MAX_RHS || symbolTotal >= MAX_SYMBOLS) {
            return ERR_FULL;
        }
        appendSymbol(current, firstCode + value);
        symbolTotal++;
        return lengthOf[current];
    }

    private void appendSymbol(int rule, int symbol) {
        symbolAt[rule * RULE_WIDTH + lengthOf[rule]] = symbol;
        lengthOf[rule]++;
    }

    // ---- Sets and kinds ----

    private void findReached() {
        for (int rule = 0; rule < ruleTotal; rule++) {
            for (int place = 0; place < lengthOf[rule]; place++) {
                int symbol = symbolAt[rule * RULE_WIDTH + place];
                if (symbol < FIRST_TERMINAL) {
                    reachedFrom[lhsOf[rule]] |= 1 << symbol;
                }
            }
        }
        // The middle of a chain has to be the outermost loop, else one sweep does not close the relation.
        for (int middle = 0; middle < nonterminals; middle++) {
            for (int a = 0; a < nonterminals; a++) {
                if (reaches(a, middle)) {
                    reachedFrom[a] |= reachedFrom[middle];
                }
            }
        }
    }

    private boolean reaches(int a, int b) {
        return ((reachedFrom[a] >> b) & 1) == 1;
    }

    private int nameSets() {
        int sets = 0;
        for (int a = 0; a < nonterminals; a++) {
            setName[a] = smallestMate(a);
            if (setName[a] == a) {
                sets++;
            }
        }
        return sets;
    }

    private int smallestMate(int a) {
        for (int b = 0; b < a; b++) {
            if (reaches(a, b) && reaches(b, a)) {
                return b;
            }
        }
        return a;
    }

    private void findKinds() {
        for (int a = 0; a < nonterminals; a++) {
            kindOf[a] = kindOfSet(setName[a]);
        }
    }

    private int kindOfSet(int name) {
        boolean plain = true;
        boolean right = true;
        boolean left = true;
        for (int rule = 0; rule < ruleTotal; rule++) {
            int members = setName[lhsOf[rule]] == name ? countMembers(rule) : 0;
            if (members > 0) {
                plain = false;
                right = right && members == 1 && isMember(rule, lengthOf[rule] - 1);
                left = left && members == 1 && isMember(rule, 0);
            }
        }
        if (plain) {
            return KIND_PLAIN;
        }
        if (right) {
            return KIND_RIGHT;
        }
        return left ? KIND_LEFT : KIND_SELF;
    }

    private int countMembers(int rule) {
        int members = 0;
        for (int place = 0; place < lengthOf[rule]; place++) {
            if (isMember(rule, place)) {
                members++;
            }
        }
        return members;
    }

    private boolean isMember(int rule, int place) {
        int symbol = symbolAt[rule * RULE_WIDTH + place];
        return symbol < MAX_NONTERMINALS && setName[symbol] == setName[lhsOf[rule]];
    }

    // ---- The rewritten grammar G2 ----

    private void rewrite() {
        for (int rule = 0; rule < ruleTotal; rule++) {
            if (kindOf[lhsOf[rule]] == KIND_SELF) {
                splitRule(rule);
            } else {
                copyRule(rule);
            }
        }
        for (int a = 0; a < nonterminals; a++) {
            if (kindOf[a] == KIND_SELF) {
                startRewritten(PRIME + a);
            }
        }
    }

    private void copyRule(int rule) {
        int length = lengthOf[rule];
        startRewritten(lhsOf[rule]);
        for (int place = 0; place < length; place++) {
            appendSymbol(rewrittenEnd - 1, symbolAt[rule * RULE_WIDTH + place]);
        }
    }

    // Each member occurrence ends one rule and, primed, starts the next.
    private void splitRule(int rule) {
        int length = lengthOf[rule];
        startRewritten(lhsOf[rule]);
        for (int place = 0; place < length; place++) {
            int symbol = symbolAt[rule * RULE_WIDTH + place];
            appendSymbol(rewrittenEnd - 1, symbol);
            if (isMember(rule, place)) {
                startRewritten(PRIME + symbol);
            }
        }
        appendSymbol(rewrittenEnd - 1, PRIME + lhsOf[rule]);
    }

    private void startRewritten(int lhs) {
        lhsOf[rewrittenEnd] = lhs;
        lengthOf[rewrittenEnd] = 0;
        rewrittenEnd++;
    }

    // ---- Questions about w ----

    private void answerQuestions() {
        inGrammar = derives(0, ruleTotal, textLength, false);
        inApprox = derives(MAX_RULES, rewrittenEnd, textLength, false);
        completable = derives(MAX_RULES, rewrittenEnd, textLength, true);
        followers = 0;
        // The place after w is free even when w is full, so trying a token there leaves w as it is.
        for (int t = 0; t < terminals; t++) {
            text[textLength] = t;
            if (derives(MAX_RULES, rewrittenEnd, textLength + 1, true)) {
                followers |= 1 << t;
            }
        }
    }

    // Whether nonterminal 0 derives the first `length` tokens with the rules first..past-1; when open, whether it
    // derives these tokens with any tokens after them.
    private boolean derives(int first, int past, int length, boolean open) {
        for (int i = 0; i < END_SETS; i++) {
            ends[i] = 0;
        }
        // What is derived from a position rests on that position and later ones alone, so the last one goes first.
        for (int start = length; start >= 0; start--) {
            boolean changed = true;
            for (int pass = 0; pass < MAX_PASSES && changed; pass++) {
                changed = false;
                for (int rule = first; rule < past; rule++) {
                    int found = endsOfRule(rule, start, length, open);
                    int index = lhsOf[rule] * POSITIONS + start;
                    if ((found & ~ends[index]) != 0) {
                        ends[index] |= found;
                        changed = true;
                    }
                }
            }
        }
        return ((ends[0] >> length) & 1) == 1;
    }

    private int endsOfRule(int rule, int start, int length, boolean open) {
        int reached = 1 << start;
        for (int place = 0; place < lengthOf[rule]; place++) {
            int symbol = symbolAt[rule * RULE_WIDTH + place];
            if (symbol >= FIRST_TERMINAL) {
                reached = passTerminal(reached, symbol - FIRST_TERMINAL, length, open);
            } else {
                reached = passNonterminal(reached, symbol, length);
            }
        }
        return reached;
    }

    // An open text goes on with any tokens, so at its end every terminal passes and stays there.
    private int passTerminal(int reached, int t, int length, boolean open) {
        int after = open ? reached & (1 << length) : 0;
        for (int at = 0; at < length; at++) {
            if (((reached >> at) & 1) == 1 && text[at] == t) {
                after |= 1 << (at + 1);
            }
        }
        return after;
    }

    private int passNonterminal(int reached, int a, int length) {
        int after = 0;
        for (int at = 0; at <= length; at++) {
            if (((reached >> at) & 1) == 1) {
                after |= ends[a * POSITIONS + at];
            }
        }
        return after;
    }
}
