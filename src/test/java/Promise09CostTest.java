/** Promise 9: cost. */
public final class Promise09CostTest {
    private static final int[] NO_COSTS = {0, -1, -9, 10, 11, 32 + 1, 256 + 1, Trial.MIN, Trial.MIN + 1, Trial.MAX};

    public static void main(String[] args) {
        Trial.run(Promise09CostTest.class);
    }

    private static void theAnswerIsWhichItWas() {
        WordGrounds x = Trial.of(4);
        int before = 1;
        for (int n = 9; n >= 1; n--) {
            Trial.due("cost(3, " + n + ")", x.cost(3, n), before);
            before = n;
        }
        Trial.due("cost(3, 9)", x.cost(3, 9), 1);
    }

    private static void oneAndNineAreCosts() {
        WordGrounds x = Trial.of(2);
        Trial.due("cost(1, 9)", x.cost(1, 9), 1);
        Trial.due("count(11)", x.count(11), 9);
        Trial.due("cost(1, 1)", x.cost(1, 1), 9);
        Trial.due("count(11)", x.count(11), 1);
    }

    private static void theSameCostChangesNothing() {
        Trial.changesNothing(Trial::busy, "cost(1, 7)", x -> x.cost(1, 7), 7);
    }

    private static void onlyThatWordChanges() {
        WordGrounds x = Trial.of(14);
        x.cost(0, 4);
        x.cost(13, 9);
        Trial.due("count(10)", x.count(10), 4);
        Trial.due("count(23)", x.count(23), 9);
        for (int word = 1; word < 13; word++) {
            Trial.due("count(" + (10 + word) + ")", x.count(10 + word), 1);
        }
    }

    private static void thePlanIsOfTheNewCost() {
        WordGrounds x = Trial.of(2, "a:b", "b:a");
        Trial.due("plan(0)", x.plan(0), 1);
        x.cost(0, 2);
        Trial.due("plan(0)", x.plan(0), 2);
        x.cost(1, 3);
        Trial.due("plan(0)", x.plan(0), 1);
        Trial.due("plan(1)", x.plan(1), 2);
    }

    private static void theImagesStay() {
        WordGrounds x = Trial.of(2);
        x.cost(0, 5);
        x.image(1);
        x.cost(0, 6);
        x.restore(1);
        Trial.due("count(10)", x.count(10), 5);
    }

    private static void aNumberThatIsNoCostIsOutside() {
        for (int n : NO_COSTS) {
            Trial.refused("cost(1, " + n + ")", x -> x.cost(1, n), Trial.OUTSIDE);
        }
    }

    private static void noSuchWordIsUnknown() {
        for (int word : Trial.NO_WORD_OF_7) {
            Trial.refused("cost(" + word + ", 2)", x -> x.cost(word, 2), Trial.UNKNOWN);
        }
        WordGrounds x = Trial.of(14);
        Trial.due("cost(13, 2)", x.cost(13, 2), 1);
        Trial.due("cost(14, 2)", x.cost(14, 2), Trial.UNKNOWN);
    }

    private static void unknownComesBeforeOutside() {
        for (int n : NO_COSTS) {
            Trial.refused("cost(-1, " + n + ")", x -> x.cost(-1, n), Trial.UNKNOWN);
            Trial.refused("cost(7, " + n + ")", x -> x.cost(7, n), Trial.UNKNOWN);
        }
    }
}
