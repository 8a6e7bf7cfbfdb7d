/** Promise 12: learned. */
public final class Promise12LearnedTest {
    private static final int[] NO_DAYS = {0, -1, 15, 16, 32 + 1, 256 + 1, Trial.MIN, Trial.MIN + 1, Trial.MAX};

    public static void main(String[] args) {
        Trial.run(Promise12LearnedTest.class);
    }

    private static void eachDayTellsItsOwnWords() {
        WordGrounds x = Trial.of(5, "a:b", "b:c", "c:", "d:de", "e:");
        Trial.due("DAY 1", x.learned(0, 1), Trial.set("ce"));
        Trial.due("DAY 2", x.learned(0, 2), Trial.set("b"));
        Trial.due("DAY 3", x.learned(0, 3), Trial.set("a"));
        Trial.due("DAY 4", x.learned(0, 4), 0);
        Trial.due("DAY 14", x.learned(0, 14), 0);
    }

    private static void whatWasKnownIsNotLearned() {
        WordGrounds x = Trial.of(3, "a:", "b:a", "c:");
        Trial.due("DAY 1 from a", x.learned(Trial.set("a"), 1), Trial.set("bc"));
        Trial.due("DAY 1 from all", x.learned(7, 1), 0);
        Trial.due("DAY 2 from all", x.learned(7, 2), 0);
    }

    private static void nothingIsLearnedFromNothing() {
        WordGrounds x = new WordGrounds();
        for (int day = 1; day <= 14; day++) {
            Trial.due("learned(0, " + day + ")", x.learned(0, day), 0);
        }
    }

    private static void theFourteenthDayCanBringAWord() {
        WordGrounds x = Trial.chain("n:");
        for (int day = 1; day <= 14; day++) {
            Trial.due("learned(0, " + day + ")", x.learned(0, day), 1 << 14 - day);
        }
        Trial.due("learned(n, 14)", x.learned(8192, 14), 0);
        Trial.due("learned(n, 13)", x.learned(8192, 13), 1);
    }

    private static void allMayBeLearnedOnOneDay() {
        WordGrounds x = Trial.of(14);
        for (int word = 0; word < 14; word++) {
            Trial.define(x, (char) ('a' + word) + ":");
        }
        Trial.due("learned(0, 1)", x.learned(0, 1), 16383);
        Trial.due("learned(0, 2)", x.learned(0, 2), 0);
    }

    private static void daysBehindSizeAreDays() {
        WordGrounds x = Trial.of(1, "a:");
        Trial.due("learned(0, 1)", x.learned(0, 1), 1);
        Trial.due("learned(0, 2)", x.learned(0, 2), 0);
        Trial.due("learned(0, 14)", x.learned(0, 14), 0);
    }

    private static void theKnownDoesNotCount() {
        WordGrounds x = Trial.of(2, "a:b");
        x.know(2);
        Trial.due("learned(0, 1)", x.learned(0, 1), 0);
        x.know(3);
        Trial.due("learned(b, 1)", x.learned(2, 1), 1);
    }

    private static void aNumberThatIsNoDayIsOutside() {
        for (int day : NO_DAYS) {
            Trial.refused("learned(1, " + day + ")", x -> x.learned(1, day), Trial.OUTSIDE);
        }
    }

    private static void whatIsNoSetOfWordsIsOutside() {
        for (int set : Trial.NO_SET_OF_7) {
            Trial.refused("learned(" + set + ", 1)", x -> x.learned(set, 1), Trial.OUTSIDE);
            Trial.refused("learned(" + set + ", 14)", x -> x.learned(set, 14), Trial.OUTSIDE);
        }
        Trial.due("learned(16384, 1)", Trial.of(14).learned(16384, 1), Trial.OUTSIDE);
    }

    private static void bothWrongIsOutside() {
        Trial.refused("learned(128, 0)", x -> x.learned(128, 0), Trial.OUTSIDE);
        Trial.refused("learned(-1, 15)", x -> x.learned(-1, 15), Trial.OUTSIDE);
    }

    private static void nothingChanges() {
        Trial.changesNothing(Trial::busy, "learned(1, 1)", x -> x.learned(1, 1), Trial.set("ce"));
    }
}
