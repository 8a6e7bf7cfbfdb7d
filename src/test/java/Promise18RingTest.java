/** Promise 18: ring, and what a RING is. */
public final class Promise18RingTest {
    public static void main(String[] args) {
        Trial.run(Promise18RingTest.class);
    }

    private static void noRingsAreNone() {
        for (WordGrounds x : new WordGrounds[] {new WordGrounds(), Trial.of(1), Trial.chain("n."), Trial.chain("n:")}) {
            Trial.due("ring(-1)", x.ring(-1), 0);
            Trial.due("ring(0)", x.ring(0), Trial.NONE);
        }
    }

    private static void oneThatUsesItselfIsARing() {
        WordGrounds x = Trial.of(3, "a:b", "b:bc");
        Trial.due("ring(-1)", x.ring(-1), 1);
        Trial.due("ring(0)", x.ring(0), Trial.set("b"));
    }

    private static void oneThatDoesNotUseItselfIsNoRing() {
        WordGrounds x = Trial.of(3, "a:b", "b:c", "c:");
        Trial.due("ring(-1)", x.ring(-1), 0);
    }

    private static void twoAreARing() {
        WordGrounds x = Trial.of(3, "a:c", "c:a");
        Trial.due("ring(-1)", x.ring(-1), 1);
        Trial.due("ring(0)", x.ring(0), Trial.set("ac"));
    }

    private static void aRingHasAsManyAsCanBe() {
        WordGrounds x = Trial.of(4, "a:b", "b:ac", "c:bd", "d:cd");
        Trial.due("ring(-1)", x.ring(-1), 1);
        Trial.due("ring(0)", x.ring(0), 15);
        WordGrounds y = Trial.chain("n:a");
        Trial.due("ring(-1) of 14", y.ring(-1), 1);
        Trial.due("ring(0) of 14", y.ring(0), 16383);
        Trial.due("ring(1) of 14", y.ring(1), Trial.NONE);
    }

    private static void joinedOneWayTheyStayTwo() {
        WordGrounds x = Trial.of(4, "a:b", "b:ac", "c:d", "d:c");
        Trial.due("ring(-1)", x.ring(-1), 2);
        Trial.due("ring(0)", x.ring(0), Trial.set("ab"));
        Trial.due("ring(1)", x.ring(1), Trial.set("cd"));
        Trial.define(x, "d:ca");
        Trial.due("joined both ways: ring(-1)", x.ring(-1), 1);
        Trial.due("joined both ways: ring(0)", x.ring(0), 15);
    }

    private static void ringsAreNumberedByTheirLeastWords() {
        WordGrounds x = Trial.of(8, "f:f", "b:g", "g:b", "a:bc", "c:de", "d:c", "e:d");
        Trial.due("ring(-1)", x.ring(-1), 3);
        Trial.due("ring(0)", x.ring(0), Trial.set("bg"));
        Trial.due("ring(1)", x.ring(1), Trial.set("cde"));
        Trial.due("ring(2)", x.ring(2), Trial.set("f"));
        WordGrounds y = Trial.of(4, "a:d", "d:a", "b:c", "c:b");
        Trial.due("ring(0)", y.ring(0), Trial.set("ad"));
        Trial.due("ring(1)", y.ring(1), Trial.set("bc"));
    }

    private static void behindTheLastThereIsNone() {
        WordGrounds x = Trial.of(3, "a:a", "b:c", "c:b");
        Trial.due("ring(1)", x.ring(1), Trial.set("bc"));
        Trial.due("ring(2)", x.ring(2), Trial.NONE);
        for (int k : new int[] {3, 14, 31, 32, 33, 64, Trial.MAX}) {
            Trial.due("ring(" + k + ")", x.ring(k), Trial.NONE);
            Trial.changesNothing(Trial::busy, "ring(" + k + ")", y -> y.ring(k), Trial.NONE);
        }
    }

    private static void fourteenRings() {
        WordGrounds x = Trial.of(14);
        for (int word = 0; word < 14; word++) {
            char letter = (char) ('a' + word);
            Trial.define(x, letter + ":" + letter);
        }
        Trial.due("ring(-1)", x.ring(-1), 14);
        for (int k = 0; k < 14; k++) {
            Trial.due("ring(" + k + ")", x.ring(k), 1 << k);
        }
        Trial.due("ring(14)", x.ring(14), Trial.NONE);
    }

    private static void itFollowsWhatChanges() {
        WordGrounds x = Trial.of(3, "a:b", "b:c", "c:a");
        x.image(0);
        Trial.due("ring(0)", x.ring(0), 7);
        x.size(2);
        Trial.due("ring(0)", x.ring(0), Trial.NONE);
        Trial.define(x, "b:b");
        Trial.due("ring(0)", x.ring(0), Trial.set("b"));
        x.restore(0);
        Trial.due("ring(0)", x.ring(0), 7);
        Trial.define(x, "c.");
        Trial.due("ring(-1)", x.ring(-1), 0);
    }

    private static void belowMinusOneIsOutside() {
        for (int k : new int[] {-2, -3, -32, -33, Trial.MIN, Trial.MIN + 1}) {
            Trial.refused("ring(" + k + ")", x -> x.ring(k), Trial.OUTSIDE);
        }
    }

    private static void nothingChanges() {
        Trial.changesNothing(Trial::busy, "ring(-1)", x -> x.ring(-1), 3);
        Trial.changesNothing(Trial::busy, "ring(2)", x -> x.ring(2), Trial.set("g"));
    }
}
