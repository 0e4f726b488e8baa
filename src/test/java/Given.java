/** Grammars and words as text: nonterminals are A to F (A is 0, the start), terminals are a to d. */
final class Given {
    /** Out of every range. Cut to fewer bits, shifted by or added to, many of them would fall into one. */
    static final int[] FAR = {Integer.MIN_VALUE, Integer.MIN_VALUE + 1, Integer.MIN_VALUE + 12, -1 << 30, -65536, -256,
        -32, -12, -6, -1, 6, 7, 8, 12, 13, 32, 33, 64, 256, 257, 65536, 65537, 1 << 30, Integer.MAX_VALUE - 12,
        Integer.MAX_VALUE - 1, Integer.MAX_VALUE};

    private Given() {
    }

    /** An object in phase EDIT that holds these rules, such as "A->aAb" or "A->". */
    static RegApprox entered(int nonterminals, int terminals, String... rules) {
        RegApprox x = new RegApprox(nonterminals, terminals);
        for (String rule : rules) {
            taken(x.rule(rule.charAt(0) - 'A'), rule);
            for (char symbol : rule.substring(3).toCharArray()) {
                taken(append(x, symbol), rule);
            }
        }
        return x;
    }

    static RegApprox built(int nonterminals, int terminals, String... rules) {
        RegApprox x = entered(nonterminals, terminals, rules);
        taken(x.build(), "build()");
        return x;
    }

    static int append(RegApprox x, char symbol) {
        return Character.isUpperCase(symbol) ? x.nonterminal(symbol - 'A') : x.terminal(symbol - 'a');
    }

    /** Puts this word in place of w. */
    static RegApprox word(RegApprox x, String word) {
        taken(x.clearInput(), "clearInput()");
        return fed(x, word);
    }

    static RegApprox fed(RegApprox x, String word) {
        for (char token : word.toCharArray()) {
            taken(x.feed(token - 'a'), word);
        }
        return x;
    }

    /** Such as "approx - live ab": in L2, not in L, completable, a or b may come next. */
    static String answers(RegApprox x) {
        return answers(x.approxAccepts(), x.grammarAccepts(), x.approxLive(), x.nextMask());
    }

    static String answers(boolean approx, boolean grammar, boolean live, int mask) {
        StringBuilder line = new StringBuilder();
        line.append(approx ? "approx " : "- ").append(grammar ? "grammar " : "- ").append(live ? "live " : "- ");
        if (mask <= 0) {
            return line.append(mask).toString();
        }
        for (int bit = 0; bit < 32; bit++) {
            if ((mask >>> bit & 1) == 1) {
                line.append((char) ('a' + bit));
            }
        }
        return line.toString();
    }

    private static void taken(int answer, String what) {
        if (answer < 0) {
            throw new IllegalStateException(what + " was refused with " + answer);
        }
    }
}
