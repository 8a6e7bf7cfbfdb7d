/** Promise 10: grounds, and what LEARNING is. */
public final class Promise10GroundsTest {
    public static void main(String[] args) {
        Trial.run(Promise10GroundsTest.class);
    }

    private static void theSetItselfIsKnown() {
        WordGrounds x = Trial.of(5);
        for (int set = 0; set < 32; set++) {
            Trial.due("grounds(" + set + ") where all are BARE", x.grounds(set), set);
        }
    }

    private static void theEmptySetGroundsWhatNeedsNothing() {
        WordGrounds x = Trial.of(5, "a:b", "b:c", "c:", "d:de");
        Trial.due("grounds(0)", x.grounds(0), Trial.set("abc"));
        Trial.due("grounds(0) of a new object", new WordGrounds().grounds(0), 0);
    }

    private static void allWordsGroundAll() {
        WordGrounds x = Trial.of(14, "a:abcdefghijklmn");
        Trial.due("grounds(16383)", x.grounds(16383), 16383);
        Trial.due("grounds(1) of one WORD", Trial.of(1).grounds(1), 1);
    }

    private static void aBareWordIsNeverLearned() {
        WordGrounds x = Trial.of(3, "a:", "b:a");
        Trial.due("grounds(0)", x.grounds(0), Trial.set("ab"));
        Trial.due("grounds of ab", x.grounds(Trial.set("ab")), Trial.set("ab"));
        Trial.due("grounds of c", x.grounds(Trial.set("c")), 7);
    }

    private static void allWordsOfADefinitionMustBeKnown() {
        WordGrounds x = Trial.of(4, "a:bcd");
        Trial.due("grounds of bc", x.grounds(Trial.set("bc")), Trial.set("bc"));
        Trial.due("grounds of bcd", x.grounds(Trial.set("bcd")), 15);
    }

    private static void whatUsesItselfIsNeverLearned() {
        WordGrounds x = Trial.of(2, "a:ab", "b:");
        Trial.due("grounds(0)", x.grounds(0), Trial.set("b"));
        Trial.due("grounds of b", x.grounds(Trial.set("b")), Trial.set("b"));
        Trial.due("grounds of a", x.grounds(Trial.set("a")), 3);
    }

    private static void byARingNothingIsLearned() {
        WordGrounds x = Trial.of(3, "a:b", "b:a", "c:b");
        Trial.due("grounds(0)", x.grounds(0), 0);
        Trial.due("grounds of c", x.grounds(Trial.set("c")), Trial.set("c"));
        Trial.due("grounds of b", x.grounds(Trial.set("b")), 7);
    }

    private static void theLongestChainIsLearnedToItsEnd() {
        Trial.due("from n, BARE", Trial.chain("n.").grounds(8192), 16383);
        Trial.due("from nothing", Trial.chain("n:").grounds(0), 16383);
        Trial.due("from m", Trial.chain("n.").grounds(4096), 8191);
    }

    private static void theKnownDoesNotCount() {
        WordGrounds x = Trial.of(2, "a:b");
        x.know(2);
        Trial.due("grounds(0)", x.grounds(0), 0);
    }

    private static void theKnownStaysAsItIs() {
        WordGrounds x = Trial.of(2, "a:b");
        x.know(2);
        x.grounds(3);
        Trial.due("count(1)", x.count(1), 2);
    }

    private static void whatIsNoSetOfWordsIsOutside() {
        for (int set : Trial.NO_SET_OF_7) {
            Trial.refused("grounds(" + set + ")", x -> x.grounds(set), Trial.OUTSIDE);
        }
        Trial.due("grounds(16384)", Trial.of(14).grounds(16384), Trial.OUTSIDE);
        Trial.due("grounds(16383)", Trial.of(14).grounds(16383), 16383);
        Trial.due("grounds(2) of one WORD", Trial.of(1).grounds(2), Trial.OUTSIDE);
    }

    private static void aSetWithAWordThatWentIsOutside() {
        WordGrounds x = new WordGrounds();
        Trial.due("grounds(128)", x.grounds(128), 128);
        x.size(7);
        Trial.due("grounds(128)", x.grounds(128), Trial.OUTSIDE);
    }

    private static void nothingChanges() {
        Trial.changesNothing(Trial::busy, "grounds(127)", x -> x.grounds(127), 127);
    }
}
