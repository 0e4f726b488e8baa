/** Promises 11 to 13. */
public final class InputTest {
    private static final Check CHECK = new Check("InputTest");

    public static void main(String[] args) {
        beforeBuild();
        feedingToTheFull();
        clearing();
        deadTokensAreTaken();
        nothingElseChanges();
        CHECK.end();
    }

    private static void beforeBuild() {
        RegApprox x = Given.entered(1, 2, "A->a");
        for (int t : new int[] {Integer.MIN_VALUE, -1, 0, 1, 2, Integer.MAX_VALUE}) {
            CHECK.due("EDIT: feed(" + t + ")", x.feed(t), RegApprox.ERR_PHASE);
        }
        CHECK.due("EDIT: clearInput()", x.clearInput(), RegApprox.ERR_PHASE);
        CHECK.due("EDIT: inputLength()", x.inputLength(), 0);
        CHECK.due("terminal(1) after the refusals", x.terminal(1), 2);
        CHECK.due("build()", x.build(), 1);
        CHECK.due("inputLength() after build()", x.inputLength(), 0);
    }

    private static void feedingToTheFull() {
        RegApprox x = Given.built(1, 2, "A->aA", "A->");
        for (int i = 0; i < 12; i++) {
            refusals(x, i);
            CHECK.due("feed(0)", x.feed(0), i + 1);
        }
        refusals(x, 12);
        CHECK.due("feed(0) to a full w", x.feed(0), RegApprox.ERR_FULL);
        CHECK.due("feed(1) to a full w", x.feed(1), RegApprox.ERR_FULL);
        CHECK.due("inputLength() of a full w", x.inputLength(), 12);
        CHECK.word(x, "A->aA | : 12 a after refusals", "approx grammar live a");
    }

    private static void refusals(RegApprox x, int length) {
        for (int t : new int[] {Integer.MIN_VALUE, Integer.MIN_VALUE + 1, -1, 2, 3, Integer.MAX_VALUE}) {
            CHECK.due("feed(" + t + ") of 2 terminals at " + length, x.feed(t), RegApprox.ERR_RANGE);
        }
        CHECK.due("inputLength()", x.inputLength(), length);
    }

    private static void clearing() {
        RegApprox x = Given.built(1, 2, "A->aAb", "A->a");
        for (int length : new int[] {0, 1, 5, 12, 12, 0}) {
            for (int i = 0; i < length; i++) {
                x.feed(1);
            }
            CHECK.due("inputLength() before clearInput()", x.inputLength(), length);
            CHECK.due("clearInput()", x.clearInput(), RegApprox.OK);
            CHECK.due("inputLength() after clearInput()", x.inputLength(), 0);
            CHECK.word(x, "A->aAb | a: cleared", "- - live a");
        }
        CHECK.due("feed(0) after clearInput()", x.feed(0), 1);
        CHECK.word(x, "A->aAb | a: a", "approx grammar live ab");
        CHECK.due("build() after clearInput()", x.build(), RegApprox.ERR_PHASE);
    }

    private static void deadTokensAreTaken() {
        RegApprox x = Given.built(1, 2, "A->a");
        for (int i = 1; i <= 12; i++) {
            CHECK.due("feed(1), dead", x.feed(1), i);
            CHECK.word(x, "A->a: b..", "- - - 0");
        }
        CHECK.due("feed(1) to a full dead w", x.feed(1), RegApprox.ERR_FULL);
    }

    private static void nothingElseChanges() {
        RegApprox x = Given.built(3, 2, "A->aBb", "B->A", "B->C", "C->b");
        for (int i = 0; i < 14; i++) {
            CHECK.due("setOf(0)", x.setOf(0), 0);
            CHECK.due("setOf(1)", x.setOf(1), 0);
            CHECK.due("setOf(2)", x.setOf(2), 2);
            CHECK.due("setKind(1)", x.setKind(1), RegApprox.KIND_SELF);
            CHECK.due("setKind(2)", x.setKind(2), RegApprox.KIND_PLAIN);
            CHECK.due("selfEmbedding()", x.selfEmbedding(), true);
            CHECK.due("ruleCount()", x.ruleCount(), 4);
            CHECK.due("transformedRuleCount()", x.transformedRuleCount(), 2 + 2 + 1 + 1 + 2);
            x.feed(i % 2);
        }
    }
}
