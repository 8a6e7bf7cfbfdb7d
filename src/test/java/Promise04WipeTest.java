/** Promise 4: wipe. */
public final class Promise04WipeTest {
    public static void main(String[] args) {
        Trial.run(Promise04WipeTest.class);
    }

    private static void anEmptyTextHadNone() {
        WordGrounds x = new WordGrounds();
        Trial.due("wipe()", x.wipe(), 0);
        Trial.due("wipe()", x.wipe(), 0);
        Trial.due("count(4)", x.count(4), 0);
    }

    private static void aFullTextHadTwenty() {
        WordGrounds x = new WordGrounds();
        Trial.say(x, "abcdefghijklmnopqrstuvw");
        Trial.due("wipe()", x.wipe(), 20);
        Trial.due("wipe()", x.wipe(), 0);
        Trial.due("count(4)", x.count(4), 0);
        Trial.due("say('a')", x.say('a'), 1);
    }

    private static void aTextOfOneHadOne() {
        WordGrounds x = new WordGrounds();
        x.say('!');
        Trial.due("wipe()", x.wipe(), 1);
    }

    private static void afterDefineThereIsNoneToWipe() {
        WordGrounds x = Trial.of(3, "a:b");
        Trial.due("wipe()", x.wipe(), 0);
        Trial.due("uses(0)", x.uses(0), 2);
    }

    private static void afterARefusedDefineTheTextIsThereToWipe() {
        WordGrounds x = Trial.of(3);
        Trial.say(x, "a:bb");
        x.define();
        Trial.due("wipe()", x.wipe(), 4);
    }

    private static void wipedSignsDoNotComeBack() {
        WordGrounds x = Trial.of(3);
        Trial.say(x, "a.");
        x.wipe();
        Trial.due("fault() of nothing", x.fault(), 0);
        x.say('b');
        Trial.due("fault() of 'b'", x.fault(), 1);
        x.say(':');
        Trial.due("fault() of 'b:'", x.fault(), Trial.NONE);
        x.wipe();
        Trial.say(x, "a:bc");
        x.wipe();
        Trial.say(x, "c:a");
        Trial.due("define()", x.define(), 1);
        Trial.due("uses(2)", x.uses(2), 1);
        Trial.due("uses(0)", x.uses(0), Trial.NONE);
    }

    private static void nothingElseChanges() {
        WordGrounds x = Trial.busy();
        WordGrounds twin = Trial.busy();
        Trial.due("wipe()", x.wipe(), 4);
        Trial.due("count(5)", x.count(5), 2);
        Trial.say(x, "b:de");
        Trial.sameFromHereOn("wipe() and the text again", x, twin, true);
    }
}
