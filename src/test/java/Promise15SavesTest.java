/** Promise 15: saves. */
public final class Promise15SavesTest {
    public static void main(String[] args) {
        Trial.run(Promise15SavesTest.class);
    }

    private static void aKnownWordSavesNothing() {
        WordGrounds x = Trial.of(3, "a:b", "b:a");
        x.cost(2, 9);
        x.know(Trial.set("c"));
        Trial.due("saves(2)", x.saves(2), 0);
        x.know(7);
        for (int word = 0; word < 3; word++) {
            Trial.due("saves(" + word + ")", x.saves(word), 0);
        }
    }

    private static void aBareWordSavesItsCost() {
        WordGrounds x = Trial.of(14);
        x.cost(13, 9);
        x.cost(0, 4);
        Trial.due("saves(13)", x.saves(13), 9);
        Trial.due("saves(0)", x.saves(0), 4);
        Trial.due("saves(1)", x.saves(1), 1);
    }

    private static void aWordThatIsLearnedAnywaySavesNothing() {
        WordGrounds x = Trial.of(4, "a:b", "b:a", "c:ab", "d:");
        Trial.due("saves(2)", x.saves(2), 0);
        Trial.due("saves(3)", x.saves(3), 0);
        Trial.due("a chain", Trial.chain("n:").saves(13), 0);
    }

    private static void aWordOfARingSavesWhatThePlanWouldTell() {
        WordGrounds x = Trial.of(4, "a:b", "b:a", "c:ab");
        x.cost(0, 3);
        x.cost(1, 5);
        Trial.due("saves(0)", x.saves(0), 3);
        Trial.due("saves(1)", x.saves(1), 3);
    }

    private static void aWordMayMakeAPartOfThePlanNeedless() {
        WordGrounds x = Trial.of(3, "a:b", "b:ac", "c:b");
        x.cost(1, 9);
        Trial.due("saves(0)", x.saves(0), 1);
        Trial.due("saves(1)", x.saves(1), 2);
        Trial.due("saves(2)", x.saves(2), 1);
    }

    private static void theKnownCounts() {
        WordGrounds x = Trial.of(3, "a:b", "b:ac", "c:b");
        x.cost(1, 9);
        x.know(Trial.set("a"));
        Trial.due("saves(1)", x.saves(1), 1);
        x.know(Trial.set("b"));
        Trial.due("saves(0)", x.saves(0), 0);
        Trial.due("saves(1)", x.saves(1), 0);
    }

    private static void theKnownStaysAsItIs() {
        WordGrounds x = Trial.of(4);
        x.know(Trial.set("d"));
        x.saves(0);
        x.saves(3);
        Trial.due("count(1)", x.count(1), Trial.set("d"));
        Trial.due("plan(0)", x.plan(0), 7);
    }

    private static void oneWordAlone() {
        Trial.due("BARE", Trial.of(1).saves(0), 1);
        Trial.due("empty", Trial.of(1, "a:").saves(0), 0);
        Trial.due("USES itself", Trial.of(1, "a:a").saves(0), 1);
    }

    private static void ofATangleEachSavesOne() {
        WordGrounds x = Trial.tangle();
        x.cost(5, 9);
        Trial.due("the dear one, which is not told", x.saves(5), 1);
        Trial.due("saves(13)", x.saves(13), 1);
    }

    private static void noSuchWordIsUnknown() {
        for (int word : Trial.NO_WORD_OF_7) {
            Trial.refused("saves(" + word + ")", x -> x.saves(word), Trial.UNKNOWN);
        }
        Trial.due("saves(14)", Trial.of(14).saves(14), Trial.UNKNOWN);
    }

    private static void nothingChanges() {
        Trial.changesNothing(Trial::busy, "saves(6)", x -> x.saves(6), 2);
        Trial.changesNothing(Trial::busy, "saves(1)", x -> x.saves(1), 0);
    }
}
