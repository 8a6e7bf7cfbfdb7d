/** Promise 17: way. */
public final class Promise17WayTest {
    public static void main(String[] args) {
        Trial.run(Promise17WayTest.class);
    }

    private static void oneStepAtTheLeast() {
        WordGrounds x = Trial.of(3, "a:b", "b:b");
        Trial.due("to what it USES", x.way(0, 1), 1);
        Trial.due("to itself, which it USES", x.way(1, 1), 1);
        Trial.due("to itself, where no WAY leads back", x.way(0, 0), Trial.NONE);
    }

    private static void theShortestCounts() {
        WordGrounds x = Trial.of(5, "a:bd", "b:c", "c:d", "d:a");
        Trial.due("way(0, 3)", x.way(0, 3), 1);
        Trial.due("way(0, 2)", x.way(0, 2), 2);
        Trial.due("way(0, 0)", x.way(0, 0), 2);
        Trial.due("way(1, 1)", x.way(1, 1), 4);
    }

    private static void aWayGoesOneWayOnly() {
        WordGrounds x = Trial.of(3, "a:b", "b:c");
        Trial.due("way(0, 2)", x.way(0, 2), 2);
        Trial.due("way(2, 0)", x.way(2, 0), Trial.NONE);
        Trial.due("way(1, 0)", x.way(1, 0), Trial.NONE);
    }

    private static void fromABareOrEmptyWordThereIsNone() {
        WordGrounds x = Trial.of(3, "a:bc", "b:");
        Trial.due("way(1, 0)", x.way(1, 0), Trial.NONE);
        Trial.due("way(1, 1)", x.way(1, 1), Trial.NONE);
        Trial.due("way(2, 0)", x.way(2, 0), Trial.NONE);
        Trial.due("way(2, 2)", x.way(2, 2), Trial.NONE);
        Trial.due("to a BARE WORD", x.way(0, 2), 1);
    }

    private static void theLongestHasFourteenSteps() {
        WordGrounds x = Trial.chain("n:a");
        for (int word = 0; word < 14; word++) {
            Trial.due("way(" + word + ", " + word + ")", x.way(word, word), 14);
        }
        Trial.due("way(0, 13)", x.way(0, 13), 13);
        Trial.due("way(1, 0)", x.way(1, 0), 13);
        Trial.due("way(13, 0)", x.way(13, 0), 1);
    }

    private static void oneWordAlone() {
        Trial.due("BARE", Trial.of(1).way(0, 0), Trial.NONE);
        Trial.due("empty", Trial.of(1, "a:").way(0, 0), Trial.NONE);
        Trial.due("USES itself", Trial.of(1, "a:a").way(0, 0), 1);
    }

    private static void noWayLeadsOverWordsThatWent() {
        WordGrounds x = Trial.of(3, "a:c", "c:b");
        Trial.due("way(0, 1)", x.way(0, 1), 2);
        x.size(2);
        Trial.due("way(0, 1)", x.way(0, 1), Trial.NONE);
        x.size(3);
        Trial.due("way(0, 1)", x.way(0, 1), Trial.NONE);
    }

    private static void noSuchFirstWordIsUnknown() {
        for (int word : Trial.NO_WORD_OF_7) {
            Trial.refused("way(" + word + ", 0)", x -> x.way(word, 0), Trial.UNKNOWN);
        }
        Trial.due("way(14, 0)", Trial.of(14).way(14, 0), Trial.UNKNOWN);
    }

    private static void noSuchSecondWordIsUnknown() {
        for (int word : Trial.NO_WORD_OF_7) {
            Trial.refused("way(0, " + word + ")", x -> x.way(0, word), Trial.UNKNOWN);
            Trial.refused("from a BARE one: way(5, " + word + ")", x -> x.way(5, word), Trial.UNKNOWN);
        }
        Trial.due("way(0, 14)", Trial.of(14).way(0, 14), Trial.UNKNOWN);
    }

    private static void bothWrongIsUnknown() {
        Trial.refused("way(-1, -1)", x -> x.way(-1, -1), Trial.UNKNOWN);
        Trial.refused("way(7, 7)", x -> x.way(7, 7), Trial.UNKNOWN);
        Trial.refused("way(MIN, MAX)", x -> x.way(Trial.MIN, Trial.MAX), Trial.UNKNOWN);
    }

    private static void nothingChanges() {
        Trial.changesNothing(Trial::busy, "way(4, 2)", x -> x.way(4, 2), 3);
    }
}
