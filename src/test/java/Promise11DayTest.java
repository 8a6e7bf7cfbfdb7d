/** Promise 11: day. */
public final class Promise11DayTest {
    public static void main(String[] args) {
        Trial.run(Promise11DayTest.class);
    }

    private static void wordsOfTheSetAreKnownOnDayZero() {
        WordGrounds x = Trial.of(4, "a:", "b:b", "c:d");
        for (int word = 0; word < 4; word++) {
            Trial.due("day(" + word + ", 15)", x.day(word, 15), 0);
            Trial.due("day(" + word + ", it alone)", x.day(word, 1 << word), 0);
        }
    }

    private static void anEmptyDefinitionIsLearnedOnDayOne() {
        WordGrounds x = Trial.of(3, "a:", "b:a");
        Trial.due("day(0, 0)", x.day(0, 0), 1);
        Trial.due("day(0, c)", x.day(0, Trial.set("c")), 1);
    }

    private static void onlyWhatWasKnownTheDayBeforeCounts() {
        WordGrounds up = Trial.of(4, "b:a", "c:b", "d:c");
        WordGrounds down = Trial.of(4, "c:d", "b:c", "a:b");
        for (int day = 1; day < 4; day++) {
            Trial.due("day(" + day + ", a)", up.day(day, 1), day);
            Trial.due("day(" + (3 - day) + ", d)", down.day(3 - day, 8), day);
        }
    }

    private static void theLastWordOfADefinitionTellsTheDay() {
        WordGrounds x = Trial.of(5, "a:be", "b:c", "c:d", "d:");
        Trial.due("day(0, e)", x.day(0, Trial.set("e")), 4);
        Trial.due("day(0, be)", x.day(0, Trial.set("be")), 1);
    }

    private static void neverIsNone() {
        WordGrounds x = Trial.of(5, "a:b", "b:a", "c:cd", "d:");
        Trial.due("in a RING", x.day(0, 0), Trial.NONE);
        Trial.due("USES itself", x.day(2, Trial.set("abde")), Trial.NONE);
        Trial.due("BARE", x.day(4, Trial.set("abcd")), Trial.NONE);
        Trial.due("BARE, from nothing", new WordGrounds().day(0, 0), Trial.NONE);
    }

    private static void theLongestLearningTakesFourteenDays() {
        WordGrounds x = Trial.chain("n:");
        Trial.due("day(0, 0)", x.day(0, 0), 14);
        Trial.due("day(13, 0)", x.day(13, 0), 1);
        Trial.due("day(0, n)", x.day(0, 8192), 13);
        Trial.due("one WORD alone", Trial.of(1, "a:").day(0, 0), 1);
    }

    private static void theKnownDoesNotCount() {
        WordGrounds x = Trial.of(2, "a:b");
        x.know(3);
        Trial.due("day(0, 0)", x.day(0, 0), Trial.NONE);
    }

    private static void noSuchWordIsUnknown() {
        for (int word : Trial.NO_WORD_OF_7) {
            Trial.refused("day(" + word + ", 0)", x -> x.day(word, 0), Trial.UNKNOWN);
        }
        Trial.due("day(14, 0)", Trial.of(14).day(14, 0), Trial.UNKNOWN);
    }

    private static void whatIsNoSetOfWordsIsOutside() {
        for (int set : Trial.NO_SET_OF_7) {
            Trial.refused("day(0, " + set + ")", x -> x.day(0, set), Trial.OUTSIDE);
        }
        Trial.due("day(0, 16384)", Trial.of(14).day(0, 16384), Trial.OUTSIDE);
    }

    private static void unknownComesBeforeOutside() {
        for (int set : Trial.NO_SET_OF_7) {
            Trial.refused("day(-1, " + set + ")", x -> x.day(-1, set), Trial.UNKNOWN);
            Trial.refused("day(7, " + set + ")", x -> x.day(7, set), Trial.UNKNOWN);
        }
    }

    private static void nothingChanges() {
        Trial.changesNothing(Trial::busy, "day(4, 1)", x -> x.day(4, 1), 1);
    }
}
