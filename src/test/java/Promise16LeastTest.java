/** Promise 16: least. */
public final class Promise16LeastTest {
    public static void main(String[] args) {
        Trial.run(Promise16LeastTest.class);
    }

    private static void setsThatCanDoWithoutAWordDoNotCount() {
        WordGrounds x = Trial.of(3, "a:b", "b:ac", "c:b");
        Trial.due("least(0): b, and ac", x.least(0), 2);
        Trial.due("least(1)", x.least(1), 2);
        Trial.due("least(10)", x.least(10), 1);
        Trial.due("least(11)", x.least(11), 1);
        Trial.due("least(12)", x.least(12), 1);
    }

    private static void theEmptySetCountsIfItGroundsAll() {
        WordGrounds x = Trial.of(2, "a:", "b:a");
        Trial.due("least(0)", x.least(0), 1);
        Trial.due("least(1)", x.least(1), 0);
        Trial.due("least(10)", x.least(10), 0);
        Trial.due("least(11)", x.least(11), 0);
        Trial.due("a chain", Trial.chain("n:").least(0), 1);
    }

    private static void bareWordsAreInEach() {
        WordGrounds x = Trial.of(14);
        Trial.due("least(0)", x.least(0), 1);
        Trial.due("least(1)", x.least(1), 14);
        Trial.due("least(10)", x.least(10), 1);
        Trial.due("least(23)", x.least(23), 1);
        WordGrounds y = Trial.of(3, "a:b", "b:a");
        Trial.due("least(0)", y.least(0), 2);
        Trial.due("least(1)", y.least(1), 2);
        Trial.due("least(12)", y.least(12), 2);
    }

    private static void wordsThatUseThemselvesAreInEach() {
        WordGrounds x = Trial.of(3, "a:ab", "b:a", "c:c");
        Trial.due("least(0)", x.least(0), 1);
        Trial.due("least(1)", x.least(1), 2);
        Trial.due("least(10)", x.least(10), 1);
        Trial.due("least(11)", x.least(11), 0);
        Trial.due("least(12)", x.least(12), 1);
    }

    private static void ofATangleAllButOne() {
        WordGrounds x = Trial.tangle();
        Trial.due("least(0)", x.least(0), 14);
        Trial.due("least(1)", x.least(1), 13);
        for (int word = 0; word < 14; word++) {
            Trial.due("least(" + (10 + word) + ")", x.least(10 + word), 13);
        }
    }

    private static void sevenPairsMake128Sets() {
        WordGrounds x = Trial.of(14);
        for (int word = 0; word < 14; word += 2) {
            String pair = "abcdefghijklmn".substring(word, word + 2);
            Trial.define(x, pair.charAt(0) + ":" + pair.charAt(1));
            Trial.define(x, pair.charAt(1) + ":" + pair.charAt(0));
        }
        Trial.due("least(0)", x.least(0), 128);
        Trial.due("least(1)", x.least(1), 7);
        Trial.due("least(10)", x.least(10), 64);
        Trial.due("least(23)", x.least(23), 64);
    }

    private static void theLongestRingMakesFourteen() {
        WordGrounds x = Trial.chain("n:a");
        Trial.due("least(0)", x.least(0), 14);
        Trial.due("least(1)", x.least(1), 1);
        Trial.due("least(10)", x.least(10), 1);
        Trial.due("least(23)", x.least(23), 1);
    }

    private static void theKnownDoesNotCount() {
        WordGrounds x = Trial.of(2, "a:b", "b:a");
        x.know(3);
        Trial.due("least(0)", x.least(0), 2);
        Trial.due("least(1)", x.least(1), 1);
        Trial.due("least(10)", x.least(10), 1);
    }

    private static void theCostDoesNotCount() {
        WordGrounds x = Trial.of(2, "a:b", "b:a");
        x.cost(0, 9);
        Trial.due("least(0)", x.least(0), 2);
        Trial.due("least(10)", x.least(10), 1);
    }

    private static void itFollowsWhatChanges() {
        WordGrounds x = Trial.of(3, "a:b", "b:c", "c:a");
        x.image(0);
        Trial.due("least(0)", x.least(0), 3);
        Trial.define(x, "a:");
        Trial.due("least(0)", x.least(0), 1);
        x.restore(0);
        Trial.due("least(0)", x.least(0), 3);
        x.size(2);
        Trial.due("least(0)", x.least(0), 1);
        x.size(3);
        Trial.due("least(12)", x.least(12), 1);
    }

    private static void anotherNumberIsOutside() {
        for (int what : new int[] {-1, 2, 3, 9, -10, 32, 256, Trial.MIN, Trial.MIN + 9, Trial.MIN + 10, Trial.MAX}) {
            Trial.refused("least(" + what + ")", x -> x.least(what), Trial.OUTSIDE);
        }
    }

    private static void noSuchWordIsOutside() {
        for (int what : new int[] {17, 18, 23, 24, 10 + 32, 10 + 64}) {
            Trial.refused("least(" + what + ")", x -> x.least(what), Trial.OUTSIDE);
        }
        Trial.due("least(24)", Trial.of(14).least(24), Trial.OUTSIDE);
        Trial.due("least(11) of one WORD", Trial.of(1).least(11), Trial.OUTSIDE);
        Trial.due("least(10) of one WORD", Trial.of(1).least(10), 1);
    }

    private static void nothingChanges() {
        Trial.changesNothing(Trial::busy, "least(0)", x -> x.least(0), 2);
        Trial.changesNothing(Trial::busy, "least(1)", x -> x.least(1), 4);
        Trial.changesNothing(Trial::busy, "least(16)", x -> x.least(16), 2);
    }
}
