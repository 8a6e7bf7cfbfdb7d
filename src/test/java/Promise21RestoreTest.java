/** Promise 21: restore. */
public final class Promise21RestoreTest {
    public static void main(String[] args) {
        Trial.run(Promise21RestoreTest.class);
    }

    /** As Trial.busy(), but only one IMAGE is kept, or none. */
    private static WordGrounds withImages(int images) {
        WordGrounds x = Trial.of(3, "a:b", "b:a");
        for (int k = 0; k < 2; k++) {
            if ((images >> k & 1) != 0) {
                x.image(k);
            }
        }
        x.size(5);
        x.cost(4, 6);
        x.know(Trial.set("ae"));
        Trial.say(x, "a:bb");
        x.define();
        return x;
    }

    private static void nothingKeptIsState() {
        Trial.changesNothing(() -> withImages(0), "restore(0)", x -> x.restore(0), Trial.STATE);
        Trial.changesNothing(() -> withImages(0), "restore(1)", x -> x.restore(1), Trial.STATE);
    }

    private static void theOtherImageDoesNotCount() {
        Trial.changesNothing(() -> withImages(1), "restore(1)", x -> x.restore(1), Trial.STATE);
        Trial.changesNothing(() -> withImages(2), "restore(0)", x -> x.restore(0), Trial.STATE);
    }

    private static void anotherNumberIsOutside() {
        for (int k : new int[] {-1, 2, 3, 32, 33, 256, Trial.MIN, Trial.MIN + 1, Trial.MAX}) {
            Trial.refused("restore(" + k + ")", x -> x.restore(k), Trial.OUTSIDE);
            Trial.changesNothing(() -> withImages(0), "none kept: restore(" + k + ")", x -> x.restore(k), Trial.OUTSIDE);
        }
    }

    private static void allIsAsItWasWhenItWasKept() {
        WordGrounds x = Trial.of(9, "a:b", "b:a", "c:", "i:a");
        x.cost(8, 4);
        x.cost(0, 3);
        x.know(Trial.set("ci"));
        x.image(0);
        x.size(2);
        Trial.define(x, "a.");
        x.cost(0, 9);
        x.know(1);
        Trial.due("plan(0)", x.plan(0), 0);
        Trial.due("restore(0)", x.restore(0), 1);
        Trial.due("count(0)", x.count(0), 9);
        Trial.due("count(10)", x.count(10), 3);
        Trial.due("count(18)", x.count(18), 4);
        Trial.due("uses(0)", x.uses(0), 2);
        Trial.due("uses(2)", x.uses(2), 0);
        Trial.due("uses(3)", x.uses(3), Trial.NONE);
        Trial.due("uses(8)", x.uses(8), 1);
        Trial.due("count(1)", x.count(1), Trial.set("ci"));
        Trial.due("plan(0)", x.plan(0), Trial.set("bdefgh"));
        Trial.due("ring(0)", x.ring(0), 3);
        Trial.due("least(0)", x.least(0), 2);
    }

    private static void wordsThatCameSinceGo() {
        WordGrounds x = Trial.of(2);
        x.image(1);
        x.size(14);
        Trial.define(x, "a:n");
        Trial.define(x, "n:a");
        x.cost(13, 9);
        x.know(16383);
        x.restore(1);
        Trial.due("count(0)", x.count(0), 2);
        Trial.due("uses(0)", x.uses(0), Trial.NONE);
        Trial.due("uses(13)", x.uses(13), Trial.UNKNOWN);
        Trial.due("count(1)", x.count(1), 0);
        x.size(14);
        Trial.due("uses(13)", x.uses(13), Trial.NONE);
        Trial.due("count(23)", x.count(23), 1);
    }

    private static void theImageStays() {
        WordGrounds x = Trial.of(3, "a:b");
        x.image(0);
        for (int time = 0; time < 3; time++) {
            x.size(1);
            Trial.define(x, "a.");
            x.cost(0, 7);
            x.know(1);
            Trial.due("restore(0)", x.restore(0), 1);
            Trial.due("count(6)", x.count(6), 1);
            Trial.due("count(0)", x.count(0), 3);
            Trial.due("uses(0)", x.uses(0), 2);
            Trial.due("count(10)", x.count(10), 1);
            Trial.due("count(1)", x.count(1), 0);
        }
    }

    private static void theTextStays() {
        WordGrounds x = Trial.of(3);
        x.image(0);
        Trial.say(x, "c:ab");
        x.restore(0);
        Trial.due("count(4)", x.count(4), 4);
        Trial.due("define()", x.define(), 2);
        x.restore(0);
        Trial.due("count(4)", x.count(4), 0);
    }

    private static void thePlaceOfTheFaultStays() {
        WordGrounds x = Trial.of(3);
        x.image(0);
        Trial.say(x, "a:bb");
        x.define();
        x.restore(0);
        Trial.due("count(5)", x.count(5), 3);
    }

    private static void theOtherImageStays() {
        WordGrounds x = Trial.of(3);
        x.image(0);
        x.size(5);
        x.image(1);
        x.restore(0);
        Trial.due("count(6)", x.count(6), 3);
        Trial.due("restore(1)", x.restore(1), 1);
        Trial.due("count(0)", x.count(0), 5);
    }

    private static void restoringWhatIsSoChangesNothing() {
        Trial.changesNothing(() -> {
            WordGrounds x = Trial.busy();
            x.restore(1);
            return x;
        }, "restore(1)", x -> x.restore(1), 1);
    }
}
