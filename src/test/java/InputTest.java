import java.util.function.Supplier;

/** Promises 11 to 13, sentence by sentence. */
public final class InputTest {
    private static final int PHASE = RegApprox.ERR_PHASE;
    private static final int RANGE = RegApprox.ERR_RANGE;
    private static final int FULL = RegApprox.ERR_FULL;
    private static final String TWELVE = "aaaaaabbbbbb";

    private static final Check CHECK = new Check("InputTest");

    public static void main(String[] args) {
        appendsAtTheEnd();
        feedInEdit();
        tokenTooSmall();
        tokenTooLarge();
        inputFull();
        phaseBeforeRange();
        rangeBeforeFull();
        answersTheLength();
        deadTokensAreTaken();
        feedChangesNothingElse();
        refusedFeedLeavesInput();
        clears();
        clearInEdit();
        clearsWhateverIsThere();
        clearChangesNothingElse();
        lengthOfInput();
        lengthBeforeBuild();
        lengthChangesNothing();
        CHECK.end();
    }

    private static Supplier<RegApprox> pairs(String word) {
        return () -> Given.fed(Given.built(3, 2, "A->aAb", "A->B", "B->"), word);
    }

    // ---- Promise 11 ----

    private static void appendsAtTheEnd() {
        CHECK.says("`feed(int t)` appends token t at the end of w.");
        RegApprox x = Given.built(1, 4, "A->abcd");
        String[] due = {"- - live b", "- - live c", "- - live d", "approx grammar live 0"};
        for (int t = 0; t < 4; t++) {
            CHECK.due("feed(" + t + ")", x.feed(t), t + 1);
            CHECK.word(x, "A->abcd after feed(" + t + ")", due[t]);
        }
        CHECK.word(Given.word(x, "dcba"), "A->abcd: dcba", "- - - 0");
    }

    private static void feedInEdit() {
        CHECK.says("1. phase EDIT: answers `ERR_PHASE`.");
        CHECK.due("EDIT, no rules: feed(0)", States.edit().get().feed(0), PHASE);
        CHECK.due("EDIT: feed(0)", States.edit("A->a").get().feed(0), PHASE);
        CHECK.due("EDIT: feed(1)", States.edit("A->a").get().feed(1), PHASE);
        Unchanged.inEdit(CHECK, "feed(0)", x -> x.feed(0), PHASE);
    }

    private static void tokenTooSmall() {
        CHECK.says("2. t < 0 or t >= T: answers `ERR_RANGE`.");
        for (int t = 1; t <= 4; t++) {
            RegApprox x = Given.built(6, t, "A->a");
            CHECK.due("feed(-1) of " + t, x.feed(-1), RANGE);
            CHECK.due("feed(0) of " + t, x.feed(0), 1);
            CHECK.due("feed(-1) of " + t, x.feed(-1), RANGE);
        }
    }

    private static void tokenTooLarge() {
        CHECK.says("2. t < 0 or t >= T: answers `ERR_RANGE`.");
        for (int t = 1; t <= 4; t++) {
            RegApprox x = Given.built(6, t, "A->a");
            for (int token = t; token <= 8; token++) {
                CHECK.due("feed(" + token + ") of " + t, x.feed(token), RANGE);
            }
            CHECK.due("feed(T-1) of " + t, x.feed(t - 1), 1);
        }
    }

    private static void inputFull() {
        CHECK.says("3. w already holds `MAX_INPUT` tokens: answers `ERR_FULL`.");
        RegApprox x = pairs("aaaaaabbbbb").get();
        CHECK.due("a twelfth feed(1)", x.feed(1), 12);
        CHECK.due("a thirteenth feed(0)", x.feed(0), FULL);
        CHECK.due("a thirteenth feed(1)", x.feed(1), FULL);
        CHECK.due("inputLength()", x.inputLength(), 12);
        CHECK.word(x, TWELVE + " after refusals", "approx grammar live b");
    }

    private static void phaseBeforeRange() {
        CHECK.says("The conditions are examined in this order:");
        for (int far : Given.FAR) {
            CHECK.due("EDIT: feed(" + far + ")", States.edit("A->a").get().feed(far), PHASE);
        }
        CHECK.due("EDIT: feed(2) of 2", States.edit("A->a").get().feed(2), PHASE);
    }

    private static void rangeBeforeFull() {
        CHECK.says("The conditions are examined in this order:");
        RegApprox x = pairs(TWELVE).get();
        for (int far : Given.FAR) {
            CHECK.due("w full: feed(" + far + ")", x.feed(far), RANGE);
        }
        CHECK.due("w full: feed(2) of 2", x.feed(2), RANGE);
        CHECK.due("w full: feed(1) of 2", x.feed(1), FULL);
    }

    private static void answersTheLength() {
        CHECK.says("Otherwise t is appended, and the call answers the new length of w (1..12).");
        RegApprox x = Given.built(1, 4, "A->aA");
        for (int length = 1; length <= 12; length++) {
            CHECK.due("feed(" + length % 4 + ")", x.feed(length % 4), length);
            CHECK.due("inputLength()", x.inputLength(), length);
        }
    }

    private static void deadTokensAreTaken() {
        CHECK.says("A token that leaves w outside every prefix of L2 is still accepted.");
        RegApprox x = Given.built(1, 2, "A->a");
        for (int length = 1; length <= 12; length++) {
            CHECK.due("feed(1), dead", x.feed(1), length);
            CHECK.word(x, "A->a: b..", "- - - 0");
        }
        CHECK.due("a thirteenth feed(1), dead", x.feed(1), FULL);
        RegApprox none = new RegApprox(1, 1);
        none.build();
        CHECK.due("no rules: feed(0)", none.feed(0), 1);
    }

    private static void feedChangesNothingElse() {
        CHECK.says("The grammar, the sets, the kinds and G2 do not change.");
        RegApprox x = Given.built(3, 2, "A->aBb", "B->A", "B->C", "C->b");
        for (int i = 0; i < 14; i++) {
            grammarOf(x);
            x.feed(i % 2);
        }
        CHECK.word(Given.word(x, "abb"), "abb afterwards", "approx grammar live b");
    }

    private static void grammarOf(RegApprox x) {
        CHECK.due("setOf(0)", x.setOf(0), 0);
        CHECK.due("setOf(1)", x.setOf(1), 0);
        CHECK.due("setOf(2)", x.setOf(2), 2);
        CHECK.due("setKind(0)", x.setKind(0), RegApprox.KIND_SELF);
        CHECK.due("setKind(1)", x.setKind(1), RegApprox.KIND_SELF);
        CHECK.due("setKind(2)", x.setKind(2), RegApprox.KIND_PLAIN);
        CHECK.due("selfEmbedding()", x.selfEmbedding(), true);
        CHECK.due("ruleCount()", x.ruleCount(), 4);
        CHECK.due("transformedRuleCount()", x.transformedRuleCount(), 2 + 2 + 1 + 1 + 2);
    }

    private static void refusedFeedLeavesInput() {
        CHECK.says("A refused call leaves w as it was.");
        for (int t : new int[] {Integer.MIN_VALUE, -1, 2, Integer.MAX_VALUE}) {
            Unchanged.inBuilt(CHECK, "feed(" + t + ")", x -> x.feed(t), RANGE);
            Unchanged.inEdit(CHECK, "feed(" + t + ")", x -> x.feed(t), PHASE);
        }
        for (String[] rules : States.grammars()) {
            for (String word : new String[] {TWELVE, "aaaaaaaaaaaa", "bbbbbbbbbbbb"}) {
                Unchanged.by(CHECK, "feed(0) to " + word, States.built(word, rules), x -> x.feed(0), FULL);
                Unchanged.by(CHECK, "feed(1) to " + word, States.built(word, rules), x -> x.feed(1), FULL);
            }
        }
    }

    // ---- Promise 12 ----

    private static void clears() {
        CHECK.says("`clearInput()` empties w and answers 0 (`OK`).");
        RegApprox x = pairs("aab").get();
        CHECK.due("clearInput()", x.clearInput(), 0);
        CHECK.due("inputLength()", x.inputLength(), 0);
        CHECK.word(x, "cleared", "approx grammar live ab");
        CHECK.due("feed(0) as the first", x.feed(0), 1);
        CHECK.word(x, "a", "approx - live ab");
    }

    private static void clearInEdit() {
        CHECK.says("It is refused in phase EDIT, where it answers `ERR_PHASE` and changes nothing.");
        Unchanged.inEdit(CHECK, "clearInput()", x -> x.clearInput(), PHASE);
        RegApprox x = States.edit("A->a").get();
        CHECK.due("EDIT: clearInput()", x.clearInput(), PHASE);
        CHECK.due("EDIT: terminal(1) after it", x.terminal(1), 2);
        CHECK.due("EDIT: ruleCount() after it", x.ruleCount(), 1);
        CHECK.due("build() after it", x.build(), 3);
    }

    private static void clearsWhateverIsThere() {
        CHECK.says("In phase BUILT it works whether w is empty, partly filled or full");
        RegApprox x = Given.built(1, 2, "A->aAb", "A->a");
        for (int length : new int[] {0, 0, 1, 5, 11, 12, 12, 0}) {
            for (int i = 1; i <= length; i++) {
                CHECK.due("feed(1)", x.feed(1), i);
            }
            if (length == 12) {
                CHECK.due("feed(1) to a full w", x.feed(1), FULL);
            }
            CHECK.due("clearInput() of " + length, x.clearInput(), RegApprox.OK);
            CHECK.due("inputLength() afterwards", x.inputLength(), 0);
            CHECK.word(x, "cleared", "- - live a");
        }
        CHECK.due("feed(0)", x.feed(0), 1);
        CHECK.word(x, "A->aAb | a: a", "approx grammar live ab");
    }

    private static void clearChangesNothingElse() {
        CHECK.says("nothing but w changes.");
        for (int length = 0; length <= 12; length++) {
            RegApprox x = Given.built(3, 2, "A->aBb", "B->A", "B->C", "C->b");
            for (int i = 0; i < length; i++) {
                x.feed(i % 2);
            }
            x.clearInput();
            grammarOf(x);
            CHECK.due("rule(0) after clearInput()", x.rule(0), PHASE);
            CHECK.due("build() after clearInput()", x.build(), PHASE);
        }
        for (String[] rules : States.grammars()) {
            Unchanged.by(CHECK, "clearInput() of an empty w", States.built("", rules), x -> x.clearInput(), 0);
            for (String word : States.WORDS) {
                Unchanged.by(CHECK, "feeding " + word + " and clearInput()", States.built("", rules),
                        x -> Given.word(x, word).clearInput(), 0);
            }
        }
    }

    // ---- Promise 13 ----

    private static void lengthOfInput() {
        CHECK.says("`inputLength()` answers the number of tokens in w (0..12).");
        RegApprox x = Given.built(1, 2, "A->a");
        for (int i = 0; i < 15; i++) {
            CHECK.due("inputLength()", x.inputLength(), Math.min(i, 12));
            x.feed(2);
            CHECK.due("inputLength() after a refused token", x.inputLength(), Math.min(i, 12));
            x.feed(i % 2);
        }
        x.clearInput();
        CHECK.due("inputLength() after clearInput()", x.inputLength(), 0);
    }

    private static void lengthBeforeBuild() {
        CHECK.says("Before `build()` this is always 0.");
        RegApprox x = new RegApprox(2, 2);
        CHECK.due("EDIT, no rules: inputLength()", x.inputLength(), 0);
        x.feed(0);
        CHECK.due("EDIT, after feed(0): inputLength()", x.inputLength(), 0);
        x.rule(0);
        x.terminal(0);
        x.terminal(1);
        x.feed(1);
        x.clearInput();
        CHECK.due("EDIT, with a rule: inputLength()", x.inputLength(), 0);
    }

    private static void lengthChangesNothing() {
        CHECK.says("It changes nothing.");
        Unchanged.always(CHECK, "inputLength()", x -> x.inputLength());
    }
}
