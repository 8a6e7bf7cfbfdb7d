/** Promise 5: define. */
public final class Promise05DefineTest {
    public static void main(String[] args) {
        Trial.run(Promise05DefineTest.class);
    }

    private static void theAnswerIsHowManyWordsItUses() {
        WordGrounds x = Trial.of(14);
        String letters = "nmlkjihgfedcba";
        for (int n = 0; n <= 14; n++) {
            Trial.due("define()", Trial.define(x, "g:" + letters.substring(0, n)), n);
            Trial.due("uses(6)", x.uses(6), Trial.set(letters.substring(0, n)));
        }
    }

    private static void anEmptyDefinitionUsesNone() {
        WordGrounds x = new WordGrounds();
        Trial.due("define()", Trial.define(x, "h:"), 0);
        Trial.due("uses(7)", x.uses(7), 0);
        Trial.due("count(2)", x.count(2), 1);
    }

    private static void aBareWordAnswersNone() {
        WordGrounds x = Trial.of(3, "b:ab");
        Trial.due("define()", Trial.define(x, "b."), Trial.NONE);
        Trial.due("uses(1)", x.uses(1), Trial.NONE);
        Trial.due("users(0)", x.users(0), 0);
        Trial.due("users(1)", x.users(1), 0);
        Trial.due("count(2)", x.count(2), 0);
        Trial.due("define() again", Trial.define(x, "b."), Trial.NONE);
    }

    private static void aWordMayUseItself() {
        WordGrounds x = Trial.of(1);
        Trial.due("define()", Trial.define(x, "a:a"), 1);
        Trial.due("uses(0)", x.uses(0), 1);
        Trial.due("users(0)", x.users(0), 1);
    }

    private static void lettersComeInAnyOrder() {
        WordGrounds x = Trial.of(5);
        Trial.due("define()", Trial.define(x, "a:edbc"), 4);
        Trial.due("uses(0)", x.uses(0), Trial.set("bcde"));
    }

    private static void theLastWordThatThereIsCanBeDefined() {
        for (int size = 1; size <= 14; size++) {
            char letter = (char) ('a' + size - 1);
            WordGrounds x = Trial.of(size);
            Trial.due("define()", Trial.define(x, letter + ":" + letter), 1);
            Trial.due("uses(" + (size - 1) + ")", x.uses(size - 1), 1 << size - 1);
        }
    }

    private static void aNewDefinitionStandsInPlaceOfTheOld() {
        WordGrounds x = Trial.of(4, "a:bc");
        Trial.due("define()", Trial.define(x, "a:d"), 1);
        Trial.due("uses(0)", x.uses(0), Trial.set("d"));
        Trial.due("users(1)", x.users(1), 0);
        Trial.due("define()", Trial.define(x, "a:"), 0);
        Trial.due("uses(0)", x.uses(0), 0);
    }

    private static void theTextIsEmptyThen() {
        WordGrounds x = Trial.of(4);
        for (String text : new String[] {"a:", "a.", "a:abcd"}) {
            Trial.define(x, text);
            Trial.due("count(4) behind " + text, x.count(4), 0);
            Trial.due("fault() behind " + text, x.fault(), 0);
            Trial.due("wipe() behind " + text, x.wipe(), 0);
        }
        Trial.due("say('a')", x.say('a'), 1);
    }

    private static void onlyThatWordChanges() {
        WordGrounds x = Trial.of(4, "a:b", "c:d", "d:");
        x.cost(0, 5);
        x.cost(1, 6);
        x.know(Trial.set("ac"));
        Trial.define(x, "a:cd");
        Trial.due("uses(1)", x.uses(1), Trial.NONE);
        Trial.due("uses(2)", x.uses(2), Trial.set("d"));
        Trial.due("uses(3)", x.uses(3), 0);
        Trial.due("count(10)", x.count(10), 5);
        Trial.due("count(11)", x.count(11), 6);
        Trial.due("count(1)", x.count(1), Trial.set("ac"));
        Trial.define(x, "a.");
        Trial.due("the COST of a BARE WORD", x.count(10), 5);
    }

    private static void thePlanIsOfTheNewDefinition() {
        WordGrounds x = Trial.of(2, "a:b", "b:a");
        Trial.due("plan(0)", x.plan(0), 1);
        Trial.define(x, "a.");
        Trial.due("plan(0)", x.plan(0), 1);
        Trial.due("least(0)", x.least(0), 1);
        Trial.define(x, "b:b");
        Trial.due("plan(0)", x.plan(0), 3);
        Trial.define(x, "a:");
        Trial.due("plan(0)", x.plan(0), 2);
    }

    private static void theImagesStay() {
        WordGrounds x = Trial.of(2, "a:b");
        x.image(0);
        Trial.define(x, "a:");
        Trial.define(x, "b:");
        x.restore(0);
        Trial.due("uses(0)", x.uses(0), 2);
        Trial.due("uses(1)", x.uses(1), Trial.NONE);
    }

    private static void theEmptyTextIsNone() {
        Trial.refusedText(7, "", 0);
    }

    private static void aBeginningOfATextIsNone() {
        Trial.refusedText(7, "a", 1);
        Trial.refusedText(7, "g", 1);
    }

    private static void aTextOfAWordThatThereIsNotIsNone() {
        Trial.refusedText(7, "h:a", 0);
        Trial.refusedText(7, "h.", 0);
        Trial.refusedText(7, "h", 0);
        Trial.refusedText(1, "b:", 0);
        Trial.refusedText(14, "o:", 0);
    }

    private static void aTextThatUsesAWordThatThereIsNotIsNone() {
        Trial.refusedText(7, "a:bh", 3);
        Trial.refusedText(1, "a:b", 2);
        Trial.refusedText(14, "a:no", 3);
    }

    private static void aTextThatUsesAWordTwiceIsNone() {
        Trial.refusedText(7, "a:bb", 3);
        Trial.refusedText(7, "a:abcdefga", 9);
    }

    private static void moreBehindThePointIsNone() {
        Trial.refusedText(7, "a.b", 2);
        Trial.refusedText(7, "a..", 2);
    }

    private static void aFullTextIsNone() {
        Trial.refusedText(14, "a:abcdefghijklmnopqr", 16);
        Trial.refusedText(7, "!!!!!!!!!!!!!!!!!!!!", 0);
    }

    private static void aRefusedTextStaysAndCanGoOn() {
        WordGrounds x = Trial.of(3, "a:c");
        x.say('a');
        Trial.due("define() of 'a'", x.define(), Trial.FAULT);
        Trial.due("count(4)", x.count(4), 1);
        Trial.due("uses(0)", x.uses(0), 4);
        Trial.due("say(':')", x.say(':'), 2);
        Trial.due("say('b')", x.say('b'), 3);
        Trial.due("define() of 'a:b'", x.define(), 1);
        Trial.due("uses(0)", x.uses(0), 2);
    }

    private static void aRefusedTextCanBeRefusedAgain() {
        WordGrounds x = Trial.of(3);
        Trial.say(x, "a:bb");
        for (int time = 0; time < 3; time++) {
            Trial.due("define()", x.define(), Trial.FAULT);
            Trial.due("count(5)", x.count(5), 3);
            Trial.due("count(4)", x.count(4), 4);
        }
    }

    private static void aTextThatSizeMadeNoneIsRefused() {
        WordGrounds x = Trial.of(3);
        Trial.say(x, "a:bc");
        x.size(2);
        Trial.due("define()", x.define(), Trial.FAULT);
        Trial.due("count(5)", x.count(5), 3);
        Trial.due("uses(0)", x.uses(0), Trial.NONE);
        x.size(3);
        Trial.due("define()", x.define(), 2);
    }
}
