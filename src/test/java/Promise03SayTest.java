/** Promise 3: say. */
public final class Promise03SayTest {
    private static final String TWENTY = "a:bcdefghijklmnopqrs";

    public static void main(String[] args) {
        Trial.run(Promise03SayTest.class);
    }

    private static WordGrounds full() {
        WordGrounds x = Trial.busy();
        x.wipe();
        Trial.say(x, TWENTY);
        return x;
    }

    private static void belowThirtyThreeIsOutside() {
        for (int sign : new int[] {32, 0, 10, -1, 'a' - 128, 'a' - 256, 'a' - 65536, Trial.MIN, Trial.MIN + 'a'}) {
            Trial.refused("say(" + sign + ")", x -> x.say(sign), Trial.OUTSIDE);
        }
    }

    private static void aboveHundredTwentySixIsOutside() {
        for (int sign : new int[] {127, 128, 'a' + 128, 'a' + 256, 'a' + 65536, Trial.MAX}) {
            Trial.refused("say(" + sign + ")", x -> x.say(sign), Trial.OUTSIDE);
        }
    }

    private static void eachSignFrom33To126IsTaken() {
        WordGrounds x = new WordGrounds();
        for (int sign = 33; sign <= 126; sign++) {
            Trial.due("say(" + sign + ")", x.say(sign), 1);
            x.wipe();
        }
    }

    private static void theAnswerIsHowManySignsThereAre() {
        WordGrounds x = new WordGrounds();
        for (int n = 1; n <= 20; n++) {
            Trial.due("say('a')", x.say('a'), n);
            Trial.due("count(4)", x.count(4), n);
        }
    }

    private static void behindTwentyIsState() {
        for (int sign : new int[] {33, 'a', 126}) {
            Trial.changesNothing(Promise03SayTest::full, "say(" + sign + ")", x -> x.say(sign), Trial.STATE);
        }
    }

    private static void outsideComesBeforeState() {
        for (int sign : new int[] {32, 127, -1, Trial.MIN, Trial.MAX}) {
            Trial.changesNothing(Promise03SayTest::full, "say(" + sign + ")", x -> x.say(sign), Trial.OUTSIDE);
        }
    }

    private static void refusedSignsAreNotInTheText() {
        WordGrounds x = new WordGrounds();
        x.say('a');
        x.say(32);
        x.say(':');
        x.say(127);
        x.say('b');
        Trial.due("count(4)", x.count(4), 3);
        Trial.due("define()", x.define(), 1);
        Trial.due("uses(0)", x.uses(0), 2);
    }

    private static void signsGoBehindThoseThatThereAre() {
        WordGrounds x = new WordGrounds();
        Trial.say(x, "h:");
        Trial.say(x, "ab");
        Trial.due("define()", x.define(), 2);
        Trial.due("uses(7)", x.uses(7), 3);
    }

    private static void anEmptiedTextTakesTwentyAgain() {
        WordGrounds x = new WordGrounds();
        Trial.say(x, TWENTY);
        Trial.due("say('a')", x.say('a'), Trial.STATE);
        x.wipe();
        for (int n = 1; n <= 20; n++) {
            Trial.due("say('!')", x.say('!'), n);
        }
        Trial.due("say('!')", x.say('!'), Trial.STATE);
    }

    private static void aSignChangesTheTextAlone() {
        WordGrounds x = Trial.busy();
        WordGrounds twin = Trial.busy();
        x.wipe();
        Trial.say(x, "b:de");
        Trial.sameFromHereOn("the same text said anew", x, twin, true);
    }
}
