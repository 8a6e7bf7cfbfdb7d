/** Promise 20: image. */
public final class Promise20ImageTest {
    public static void main(String[] args) {
        Trial.run(Promise20ImageTest.class);
    }

    private static void thereAreTwo() {
        WordGrounds x = Trial.of(3);
        Trial.due("image(1)", x.image(1), 1);
        Trial.due("count(6)", x.count(6), 2);
        Trial.due("restore(0)", x.restore(0), Trial.STATE);
        Trial.due("image(0)", x.image(0), 1);
        Trial.due("count(6)", x.count(6), 3);
        Trial.due("restore(0)", x.restore(0), 1);
        Trial.due("restore(1)", x.restore(1), 1);
    }

    private static void eachKeepsItsOwn() {
        WordGrounds x = Trial.of(3);
        x.image(0);
        x.size(5);
        x.image(1);
        x.size(7);
        x.restore(0);
        Trial.due("count(0)", x.count(0), 3);
        x.restore(1);
        Trial.due("count(0)", x.count(0), 5);
    }

    private static void sizeCostsDefinitionsAndTheKnownAreKept() {
        WordGrounds x = Trial.of(14, "a:bn", "b:", "n:n");
        x.cost(0, 2);
        x.cost(13, 9);
        x.know(Trial.set("cn"));
        x.image(0);
        x.size(1);
        Trial.define(x, "a.");
        x.cost(0, 5);
        x.know(1);
        x.restore(0);
        Trial.due("count(0)", x.count(0), 14);
        Trial.due("count(10)", x.count(10), 2);
        Trial.due("count(23)", x.count(23), 9);
        Trial.due("uses(0)", x.uses(0), Trial.set("bn"));
        Trial.due("uses(1)", x.uses(1), 0);
        Trial.due("uses(2)", x.uses(2), Trial.NONE);
        Trial.due("uses(13)", x.uses(13), Trial.set("n"));
        Trial.due("count(1)", x.count(1), Trial.set("cn"));
    }

    private static void itStandsInPlaceOfWhatWasKept() {
        WordGrounds x = Trial.of(14, "n:a");
        x.cost(13, 4);
        x.know(8192);
        x.image(0);
        x.size(2);
        Trial.due("image(0)", x.image(0), 1);
        Trial.due("count(6)", x.count(6), 1);
        x.size(14);
        x.restore(0);
        Trial.due("count(0)", x.count(0), 2);
        Trial.due("count(1)", x.count(1), 0);
        x.size(14);
        Trial.due("uses(13)", x.uses(13), Trial.NONE);
        Trial.due("count(23)", x.count(23), 1);
    }

    private static void whatChangesLaterDoesNotChangeIt() {
        WordGrounds x = Trial.of(3, "a:b");
        x.image(0);
        x.image(1);
        Trial.define(x, "a:c");
        x.cost(0, 8);
        x.know(4);
        x.image(1);
        x.restore(0);
        Trial.due("uses(0)", x.uses(0), 2);
        Trial.due("count(10)", x.count(10), 1);
        Trial.due("count(1)", x.count(1), 0);
    }

    private static void anotherNumberIsOutside() {
        for (int k : new int[] {-1, 2, 3, 32, 33, 256, Trial.MIN, Trial.MIN + 1, Trial.MAX}) {
            Trial.refused("image(" + k + ")", x -> x.image(k), Trial.OUTSIDE);
        }
    }

    private static void aRefusedOneKeepsNothing() {
        WordGrounds x = Trial.of(3);
        for (int k : new int[] {-1, 2, 32, 33}) {
            Trial.due("image(" + k + ")", x.image(k), Trial.OUTSIDE);
        }
        Trial.due("count(6)", x.count(6), 0);
        Trial.due("restore(0)", x.restore(0), Trial.STATE);
        Trial.due("restore(1)", x.restore(1), Trial.STATE);
    }

    private static void keepingChangesNothingElse() {
        for (int k = 0; k < 2; k++) {
            WordGrounds x = Trial.busy();
            WordGrounds twin = Trial.busy();
            x.restore(k);
            twin.restore(k);
            Trial.due("image(" + k + ")", x.image(k), 1);
            Trial.sameFromHereOn("keeping what is kept", x, twin, true);
        }
    }
}
