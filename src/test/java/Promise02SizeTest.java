/** Promise 2: size. */
public final class Promise02SizeTest {
    public static void main(String[] args) {
        Trial.run(Promise02SizeTest.class);
    }

    private static void tooSmallIsOutside() {
        for (int n : new int[] {0, -1, -14, Trial.MIN}) {
            Trial.refused("size(" + n + ")", x -> x.size(n), Trial.OUTSIDE);
        }
    }

    private static void tooLargeIsOutside() {
        for (int n : new int[] {15, 16, 32 + 3, 256 + 3, Trial.MAX}) {
            Trial.refused("size(" + n + ")", x -> x.size(n), Trial.OUTSIDE);
        }
    }

    private static void oneWordIsEnough() {
        WordGrounds x = new WordGrounds();
        Trial.due("size(1)", x.size(1), 8);
        Trial.due("count(0)", x.count(0), 1);
        Trial.due("uses(0)", x.uses(0), Trial.NONE);
        Trial.due("uses(1)", x.uses(1), Trial.UNKNOWN);
        Trial.due("define() of a:a", Trial.define(x, "a:a"), 1);
    }

    private static void fourteenWordsAreNotTooMany() {
        WordGrounds x = new WordGrounds();
        Trial.due("size(14)", x.size(14), 8);
        Trial.due("count(0)", x.count(0), 14);
        Trial.due("uses(13)", x.uses(13), Trial.NONE);
        Trial.due("uses(14)", x.uses(14), Trial.UNKNOWN);
        Trial.due("define() of n:n", Trial.define(x, "n:n"), 1);
    }

    private static void theAnswerIsWhichItWas() {
        WordGrounds x = new WordGrounds();
        int before = 8;
        for (int n = 14; n >= 1; n--) {
            Trial.due("size(" + n + ")", x.size(n), before);
            before = n;
        }
        for (int n = 1; n <= 14; n++) {
            Trial.due("size(" + n + ")", x.size(n), before);
            before = n;
        }
    }

    private static void theSameSizeChangesNothing() {
        Trial.changesNothing(Trial::busy, "size(7)", x -> x.size(7), 7);
    }

    private static void wordsThatComeAreBare() {
        WordGrounds x = Trial.of(3, "a:", "b:", "c:");
        x.size(5);
        Trial.due("uses(3)", x.uses(3), Trial.NONE);
        Trial.due("uses(4)", x.uses(4), Trial.NONE);
        Trial.due("lie(4)", x.lie(4), Trial.set("de"));
        Trial.due("count(2)", x.count(2), 3);
    }

    private static void wordsThatComeAgainAreBare() {
        WordGrounds x = Trial.of(3, "a:", "b:", "c:ab");
        x.size(2);
        x.size(3);
        Trial.due("uses(2)", x.uses(2), Trial.NONE);
        Trial.due("lie(4)", x.lie(4), Trial.set("c"));
        Trial.due("users(0)", x.users(0), 0);
        Trial.due("count(2)", x.count(2), 2);
        Trial.due("count(3)", x.count(3), 0);
        Trial.due("grounds(0)", x.grounds(0), Trial.set("ab"));
    }

    private static void wordsThatComeAgainCostOne() {
        WordGrounds x = Trial.of(14);
        for (int word = 0; word < 14; word++) {
            x.cost(word, 9);
        }
        x.size(1);
        x.size(14);
        Trial.due("the COST of the WORD that stayed", x.count(10), 9);
        for (int word = 1; word < 14; word++) {
            Trial.due("count(" + (10 + word) + ")", x.count(10 + word), 1);
        }
        Trial.due("plan(1)", x.plan(1), 22);
    }

    private static void wordsThatGoGoOutOfAllDefinitions() {
        WordGrounds x = Trial.of(5, "a:bde", "b:ad", "c:c", "d:e", "e:a");
        x.size(3);
        Trial.due("uses(0)", x.uses(0), Trial.set("b"));
        Trial.due("uses(1)", x.uses(1), Trial.set("a"));
        Trial.due("uses(2)", x.uses(2), Trial.set("c"));
        Trial.due("count(3)", x.count(3), 3);
        x.size(5);
        Trial.due("uses(0) when they come again", x.uses(0), Trial.set("b"));
        Trial.due("users(3)", x.users(3), 0);
        Trial.due("users(4)", x.users(4), 0);
    }

    private static void aDefinitionThatLosesAllIsEmpty() {
        WordGrounds x = Trial.of(3, "a:c", "b:bc");
        x.size(2);
        Trial.due("uses(0)", x.uses(0), 0);
        Trial.due("lie(4)", x.lie(4), 0);
        Trial.due("count(2)", x.count(2), 2);
        Trial.due("day(0, 0)", x.day(0, 0), 1);
        Trial.due("plan(0)", x.plan(0), Trial.set("b"));
    }

    private static void aWordThatGoesTakesItsRingAlong() {
        WordGrounds x = Trial.of(3, "a:b", "b:c", "c:a");
        Trial.due("ring(0)", x.ring(0), 7);
        Trial.due("least(0)", x.least(0), 3);
        x.size(2);
        Trial.due("ring(-1)", x.ring(-1), 0);
        Trial.due("least(0)", x.least(0), 1);
        Trial.due("plan(0)", x.plan(0), 0);
        x.size(3);
        Trial.due("plan(0)", x.plan(0), Trial.set("c"));
    }

    private static void wordsThatGoGoOutOfTheKnown() {
        WordGrounds x = Trial.of(14);
        x.know(16383);
        x.size(13);
        Trial.due("count(1)", x.count(1), 8191);
        x.size(1);
        Trial.due("count(1)", x.count(1), 1);
        x.size(14);
        Trial.due("count(1) when they come again", x.count(1), 1);
        Trial.due("plan(0)", x.plan(0), 16382);
    }

    private static void wordsThatStayAreAsTheyWere() {
        WordGrounds x = Trial.of(3, "a:ba", "c:");
        x.cost(0, 4);
        x.cost(2, 6);
        x.know(Trial.set("ac"));
        x.size(9);
        x.size(3);
        Trial.due("uses(0)", x.uses(0), Trial.set("ab"));
        Trial.due("uses(1)", x.uses(1), Trial.NONE);
        Trial.due("uses(2)", x.uses(2), 0);
        Trial.due("count(10)", x.count(10), 4);
        Trial.due("count(12)", x.count(12), 6);
        Trial.due("count(1)", x.count(1), Trial.set("ac"));
    }

    private static void theTextAndThePlaceOfTheFaultStay() {
        WordGrounds x = Trial.of(3);
        Trial.say(x, "cc");
        x.define();
        x.wipe();
        Trial.say(x, "c:a");
        x.size(2);
        Trial.due("count(4)", x.count(4), 3);
        Trial.due("count(5)", x.count(5), 1);
        Trial.due("there is no c: fault()", x.fault(), 0);
        x.size(3);
        Trial.due("there is a c: fault()", x.fault(), Trial.NONE);
        Trial.due("define()", x.define(), 1);
    }

    private static void theImagesStay() {
        WordGrounds x = Trial.of(3, "a:c", "c:a");
        x.know(Trial.set("c"));
        x.cost(2, 5);
        x.image(0);
        x.size(1);
        x.size(14);
        Trial.due("count(6)", x.count(6), 1);
        Trial.due("restore(0)", x.restore(0), 1);
        Trial.due("uses(0)", x.uses(0), Trial.set("c"));
        Trial.due("uses(2)", x.uses(2), Trial.set("a"));
        Trial.due("count(12)", x.count(12), 5);
        Trial.due("count(1)", x.count(1), Trial.set("c"));
    }
}
