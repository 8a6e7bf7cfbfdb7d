/** Promise 13: know. */
public final class Promise13KnowTest {
    public static void main(String[] args) {
        Trial.run(Promise13KnowTest.class);
    }

    private static void theAnswerIsWhichItWas() {
        WordGrounds x = Trial.of(4);
        Trial.due("know(15)", x.know(15), 0);
        Trial.due("know(5)", x.know(5), 15);
        Trial.due("know(10)", x.know(10), 5);
        Trial.due("count(1)", x.count(1), 10);
    }

    private static void itMayBeEmpty() {
        WordGrounds x = Trial.of(4);
        x.know(9);
        Trial.due("know(0)", x.know(0), 9);
        Trial.due("count(1)", x.count(1), 0);
        Trial.due("know(0)", x.know(0), 0);
    }

    private static void itMayBeAllWords() {
        WordGrounds x = Trial.of(14);
        Trial.due("know(16383)", x.know(16383), 0);
        Trial.due("count(1)", x.count(1), 16383);
        Trial.due("plan(0)", x.plan(0), 0);
        WordGrounds y = Trial.of(1);
        Trial.due("know(1)", y.know(1), 0);
        Trial.due("count(1)", y.count(1), 1);
    }

    private static void whatCanBeLearnedFromItIsNotInIt() {
        WordGrounds x = Trial.of(3, "a:b", "c:");
        x.know(2);
        Trial.due("count(1)", x.count(1), 2);
        Trial.due("know(0)", x.know(0), 2);
    }

    private static void theSameSetChangesNothing() {
        Trial.changesNothing(Trial::busy, "know(2)", x -> x.know(2), 2);
    }

    private static void theImagesStay() {
        WordGrounds x = Trial.of(3);
        x.know(5);
        x.image(0);
        x.know(2);
        x.restore(0);
        Trial.due("count(1)", x.count(1), 5);
    }

    private static void whatIsNoSetOfWordsIsOutside() {
        for (int set : Trial.NO_SET_OF_7) {
            Trial.refused("know(" + set + ")", x -> x.know(set), Trial.OUTSIDE);
        }
        Trial.due("know(16384)", Trial.of(14).know(16384), Trial.OUTSIDE);
        Trial.due("know(2) of one WORD", Trial.of(1).know(2), Trial.OUTSIDE);
    }
}
