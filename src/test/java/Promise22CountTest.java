/** Promise 22: count. */
public final class Promise22CountTest {
    public static void main(String[] args) {
        Trial.run(Promise22CountTest.class);
    }

    private static void sizeIsCounted() {
        for (int n = 1; n <= 14; n++) {
            Trial.due("count(0)", Trial.of(n).count(0), n);
        }
    }

    private static void theKnownIsTold() {
        WordGrounds x = Trial.of(14);
        Trial.due("count(1)", x.count(1), 0);
        x.know(16383);
        Trial.due("count(1)", x.count(1), 16383);
    }

    private static void definitionsAreCountedEmptyOnesToo() {
        WordGrounds x = Trial.of(4, "a:abc", "b:", "c:d");
        Trial.due("count(2)", x.count(2), 3);
        Trial.define(x, "a.");
        Trial.due("count(2)", x.count(2), 2);
        Trial.define(x, "b:a");
        Trial.due("one that had one", x.count(2), 2);
        x.size(2);
        Trial.due("count(2)", x.count(2), 1);
        Trial.due("none", Trial.of(14).count(2), 0);
        Trial.due("all", Trial.chain("n:").count(2), 14);
    }

    private static void usesAreCounted() {
        WordGrounds x = Trial.of(4, "a:abc", "b:", "c:d");
        Trial.due("count(3)", x.count(3), 4);
        Trial.define(x, "a:b");
        Trial.due("count(3)", x.count(3), 2);
        x.size(3);
        Trial.due("count(3)", x.count(3), 1);
        Trial.define(x, "a.");
        Trial.due("count(3)", x.count(3), 0);
        Trial.due("none", Trial.of(14).count(3), 0);
    }

    private static void at196AllUseAll() {
        WordGrounds x = Trial.of(14);
        for (int word = 0; word < 14; word++) {
            Trial.define(x, (char) ('a' + word) + ":abcdefghijklmn");
        }
        Trial.due("count(3)", x.count(3), 196);
    }

    private static void signsAreCounted() {
        WordGrounds x = Trial.of(3);
        for (int signs = 0; signs <= 20; signs++) {
            Trial.due("count(4)", x.count(4), signs);
            x.say('a');
        }
        Trial.due("behind a refused sign", x.count(4), 20);
        x.wipe();
        Trial.due("count(4)", x.count(4), 0);
    }

    private static void beforeAnyFaultThereIsNone() {
        WordGrounds x = Trial.of(3);
        Trial.due("count(5)", x.count(5), Trial.NONE);
        Trial.define(x, "a:b");
        Trial.due("behind a text without one", x.count(5), Trial.NONE);
        Trial.say(x, "a:bb");
        x.fault();
        Trial.due("behind fault()", x.count(5), Trial.NONE);
    }

    private static void theFaultThatDefineToldLastIsTold() {
        WordGrounds x = Trial.of(3);
        x.define();
        Trial.due("count(5)", x.count(5), 0);
        x.say('a');
        x.define();
        Trial.due("count(5)", x.count(5), 1);
        Trial.say(x, ":abcabc");
        x.define();
        Trial.due("count(5)", x.count(5), 5);
        x.wipe();
        Trial.say(x, "a.a");
        x.define();
        Trial.due("count(5)", x.count(5), 2);
        x.size(14);
        x.wipe();
        Trial.say(x, "a:abcdefghijklmnabcd");
        x.define();
        Trial.due("count(5)", x.count(5), 16);
    }

    private static void theFaultStaysWhenOneHasNone() {
        WordGrounds x = Trial.of(3);
        Trial.say(x, "a:bb");
        x.define();
        x.wipe();
        for (String text : new String[] {"a:b", "a:", "a."}) {
            Trial.define(x, text);
            Trial.due("count(5) behind " + text, x.count(5), 3);
        }
    }

    private static void theFaultStaysWhenOtherCallsAreRefused() {
        Trial.refused("count(5)", x -> x.count(5), 2);
        WordGrounds x = Trial.busy();
        x.say(32);
        x.size(0);
        x.uses(-1);
        x.restore(2);
        x.wipe();
        Trial.due("count(5)", x.count(5), 2);
    }

    private static void imagesAreASet() {
        WordGrounds x = Trial.of(3);
        Trial.due("count(6)", x.count(6), 0);
        x.image(1);
        Trial.due("count(6)", x.count(6), 2);
        x.image(1);
        Trial.due("count(6)", x.count(6), 2);
        x.image(0);
        Trial.due("count(6)", x.count(6), 3);
        WordGrounds y = Trial.of(3);
        y.image(0);
        Trial.due("count(6)", y.count(6), 1);
    }

    private static void costsAreTold() {
        WordGrounds x = Trial.of(14);
        for (int word = 0; word < 14; word++) {
            x.cost(word, 1 + word % 9);
        }
        for (int word = 0; word < 14; word++) {
            Trial.due("count(" + (10 + word) + ")", x.count(10 + word), 1 + word % 9);
        }
    }

    private static void anotherNumberIsOutside() {
        int[] others = {-1, 7, 8, 9, -10, -22, 256, Trial.MIN, Trial.MIN + 9, Trial.MIN + 10, Trial.MAX};
        for (int what : others) {
            Trial.refused("count(" + what + ")", x -> x.count(what), Trial.OUTSIDE);
        }
    }

    private static void noSuchWordIsOutside() {
        for (int what : new int[] {17, 18, 23, 24, 10 + 32, 10 + 64}) {
            Trial.refused("count(" + what + ")", x -> x.count(what), Trial.OUTSIDE);
        }
        Trial.due("count(24)", Trial.of(14).count(24), Trial.OUTSIDE);
        Trial.due("count(11) of one WORD", Trial.of(1).count(11), Trial.OUTSIDE);
        Trial.due("count(10) of one WORD", Trial.of(1).count(10), 1);
    }

    private static void nothingChanges() {
        int[] due = {7, 2, 6, 7, 4, 2, 3};
        for (int one = 0; one < due.length; one++) {
            int what = one;
            Trial.changesNothing(Trial::busy, "count(" + what + ")", x -> x.count(what), due[what]);
        }
        Trial.changesNothing(Trial::busy, "count(16)", x -> x.count(16), 2);
    }
}
