/** Promise 14: plan, and what THE PLAN is. */
public final class Promise14PlanTest {
    public static void main(String[] args) {
        Trial.run(Promise14PlanTest.class);
    }

    private static void planIs(WordGrounds x, int set, int cost, int words, int days) {
        Trial.due("plan(0)", x.plan(0), set);
        Trial.due("plan(1)", x.plan(1), cost);
        Trial.due("plan(2)", x.plan(2), words);
        Trial.due("plan(3)", x.plan(3), days);
    }

    private static void bareWordsMustBeTold() {
        planIs(new WordGrounds(), 255, 8, 8, 0);
        planIs(Trial.of(1), 1, 1, 1, 0);
        planIs(Trial.of(14), 16383, 14, 14, 0);
    }

    private static void itIsEmptyIfAllIsLearnedFromNothing() {
        planIs(Trial.of(2, "a:", "b:a"), 0, 0, 0, 2);
        planIs(Trial.chain("n:"), 0, 0, 0, 14);
        planIs(Trial.of(1, "a:"), 0, 0, 0, 1);
    }

    private static void itIsEmptyIfAllIsKnown() {
        WordGrounds x = Trial.of(14);
        x.know(16383);
        planIs(x, 0, 0, 0, 0);
    }

    private static void itIsEmptyIfTheKnownGroundsAll() {
        WordGrounds x = Trial.of(3, "a:b", "b:c", "c:a");
        x.know(Trial.set("c"));
        planIs(x, 0, 0, 0, 2);
        x.know(Trial.set("ab"));
        planIs(x, 0, 0, 0, 1);
    }

    private static void noneOfTheKnownIsInIt() {
        WordGrounds x = Trial.of(4, "a:b", "b:a");
        x.know(Trial.set("c"));
        planIs(x, Trial.set("ad"), 2, 2, 1);
        x.know(Trial.set("ac"));
        planIs(x, Trial.set("d"), 1, 1, 1);
    }

    private static void theLeastCostComesFirst() {
        WordGrounds x = Trial.of(3, "a:b", "b:ac", "c:b");
        x.cost(1, 3);
        planIs(x, Trial.set("ac"), 2, 2, 1);
        WordGrounds y = Trial.of(2, "a:b", "b:a");
        y.cost(0, 9);
        y.cost(1, 8);
        planIs(y, Trial.set("b"), 8, 1, 1);
    }

    private static void ofAsLittleCostTheFewestWordsComeFirst() {
        WordGrounds x = Trial.of(3, "a:c", "b:c", "c:ab");
        x.cost(2, 2);
        planIs(x, Trial.set("c"), 2, 1, 1);
        WordGrounds y = Trial.of(3, "a:bc", "b:a", "c:a");
        y.cost(0, 2);
        planIs(y, Trial.set("a"), 2, 1, 1);
    }

    private static void ofAsFewTheLeastNumberComesFirst() {
        planIs(Trial.of(3, "a:b", "b:c", "c:a"), Trial.set("a"), 1, 1, 2);
        planIs(Trial.of(4, "a:b", "b:a", "c:d", "d:c"), Trial.set("ac"), 2, 2, 1);
        WordGrounds x = Trial.of(4, "a:d", "d:ab", "b:cd", "c:b");
        planIs(x, Trial.set("ab"), 2, 2, 1);
    }

    private static void theLeastNumberIsOfTheWholeSet() {
        WordGrounds x = Trial.of(4, "b:c", "c:b");
        x.cost(0, 9);
        planIs(x, Trial.set("abd"), 11, 3, 1);
    }

    private static void wordsThatUseThemselvesMustBeTold() {
        planIs(Trial.of(2, "a:a", "b:b"), 3, 2, 2, 0);
        planIs(Trial.of(3, "a:b", "b:abc", "c:b"), Trial.set("b"), 1, 1, 1);
    }

    private static void theDearestPlanCosts126() {
        WordGrounds x = Trial.of(14);
        for (int word = 0; word < 14; word++) {
            x.cost(word, 9);
        }
        planIs(x, 16383, 126, 14, 0);
    }

    private static void ofATangleAllButOneAreTold() {
        WordGrounds x = Trial.tangle();
        planIs(x, 8191, 13, 13, 1);
        x.cost(3, 2);
        planIs(x, 16383 - 8, 13, 13, 1);
    }

    private static void theDaysAreThoseTillTheLastIsKnown() {
        planIs(Trial.chain("n."), 8192, 1, 1, 13);
        planIs(Trial.chain("n:a"), 1, 1, 1, 13);
        planIs(Trial.chain("n:n"), 8192, 1, 1, 13);
    }

    private static void theDaysGoOnFromTheKnownAndThePlan() {
        WordGrounds x = Trial.of(4, "a:b", "b:c", "c:d");
        planIs(x, Trial.set("d"), 1, 1, 3);
        x.know(Trial.set("c"));
        planIs(x, Trial.set("d"), 1, 1, 2);
        x.know(Trial.set("bc"));
        planIs(x, Trial.set("d"), 1, 1, 1);
        x.know(Trial.set("abc"));
        planIs(x, Trial.set("d"), 1, 1, 0);
    }

    private static void itFollowsWhatChanges() {
        WordGrounds x = Trial.of(3, "a:b", "b:c", "c:a");
        x.image(0);
        planIs(x, Trial.set("a"), 1, 1, 2);
        x.cost(0, 2);
        planIs(x, Trial.set("b"), 1, 1, 2);
        x.know(Trial.set("b"));
        planIs(x, 0, 0, 0, 2);
        Trial.define(x, "c.");
        planIs(x, Trial.set("c"), 1, 1, 1);
        x.size(2);
        planIs(x, 0, 0, 0, 1);
        x.size(3);
        planIs(x, Trial.set("c"), 1, 1, 1);
        x.restore(0);
        planIs(x, Trial.set("a"), 1, 1, 2);
    }

    private static void anotherNumberIsOutside() {
        for (int what : new int[] {-1, 4, 5, 10, 32, 256, Trial.MIN, Trial.MIN + 1, Trial.MAX}) {
            Trial.refused("plan(" + what + ")", x -> x.plan(what), Trial.OUTSIDE);
        }
    }

    private static void nothingChanges() {
        Trial.changesNothing(Trial::busy, "plan(0)", x -> x.plan(0), Trial.set("dfg"));
        Trial.changesNothing(Trial::busy, "plan(1)", x -> x.plan(1), 4);
        Trial.changesNothing(Trial::busy, "plan(2)", x -> x.plan(2), 3);
        Trial.changesNothing(Trial::busy, "plan(3)", x -> x.plan(3), 2);
    }
}
