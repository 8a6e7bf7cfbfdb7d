/** Promise 19: lie. */
public final class Promise19LieTest {
    public static void main(String[] args) {
        Trial.run(Promise19LieTest.class);
    }

    /** a, then the RING bc, then d, then the RING ef, then g; h is a RING of its own. */
    private static WordGrounds line() {
        return Trial.of(8, "a:b", "b:cd", "c:b", "d:e", "e:f", "f:eg", "h:h");
    }

    private static void wordsInRings() {
        Trial.due("lie(0)", line().lie(0), Trial.set("bcefh"));
        Trial.due("none", new WordGrounds().lie(0), 0);
        Trial.due("all", Trial.tangle().lie(0), 16383);
        Trial.due("one that USES itself", Trial.of(1, "a:a").lie(0), 1);
    }

    private static void wordsBefore() {
        Trial.due("lie(1)", line().lie(1), Trial.set("dg"));
        Trial.due("no RING", Trial.chain("n:").lie(1), 0);
        Trial.due("all in a RING", Trial.tangle().lie(1), 0);
        Trial.due("thirteen", Trial.of(14, "a:abcdefghijklmn").lie(1), 16382);
    }

    private static void wordsBehind() {
        Trial.due("lie(2)", line().lie(2), Trial.set("ad"));
        Trial.due("no RING", Trial.chain("n:").lie(2), 0);
        Trial.due("all in a RING", Trial.tangle().lie(2), 0);
        Trial.due("thirteen", Trial.chain("n:n").lie(2), 8191);
    }

    private static void aWordMayLieBeforeAndBehind() {
        WordGrounds x = Trial.of(3, "a:ab", "b:c", "c:c");
        Trial.due("lie(0)", x.lie(0), Trial.set("ac"));
        Trial.due("lie(1)", x.lie(1), Trial.set("b"));
        Trial.due("lie(2)", x.lie(2), Trial.set("b"));
    }

    private static void aWordInARingLiesNeitherBeforeNorBehind() {
        WordGrounds x = Trial.of(4, "a:ab", "b:b", "c:a");
        Trial.due("lie(1)", x.lie(1), 0);
        Trial.due("lie(2)", x.lie(2), Trial.set("c"));
    }

    private static void aLongWayCountsToo() {
        WordGrounds x = Trial.of(5, "a:b", "b:c", "c:cd", "d:e");
        Trial.due("lie(1)", x.lie(1), Trial.set("de"));
        Trial.due("lie(2)", x.lie(2), Trial.set("ab"));
    }

    private static void wordsThatNoWordUses() {
        Trial.due("lie(3)", line().lie(3), Trial.set("a"));
        Trial.due("all", Trial.of(14).lie(3), 16383);
        Trial.due("none", Trial.chain("n:a").lie(3), 0);
        Trial.due("one of one", Trial.of(1).lie(3), 1);
    }

    private static void aWordThatUsesItselfIsUsed() {
        Trial.due("lie(3)", Trial.of(2, "a:a").lie(3), Trial.set("b"));
    }

    private static void wordsThatAreBare() {
        WordGrounds x = line();
        Trial.due("lie(4)", x.lie(4), Trial.set("g"));
        Trial.define(x, "g:");
        Trial.due("an empty DEFINITION is one", x.lie(4), 0);
        Trial.define(x, "a.");
        Trial.due("lie(4)", x.lie(4), Trial.set("a"));
        Trial.due("all", Trial.of(14).lie(4), 16383);
        Trial.due("one of one", Trial.of(1).lie(4), 1);
    }

    private static void onlyWordsThatThereAreLieAnywhere() {
        WordGrounds x = line();
        x.size(5);
        Trial.due("lie(0)", x.lie(0), Trial.set("bc"));
        Trial.due("lie(1)", x.lie(1), Trial.set("de"));
        Trial.due("lie(2)", x.lie(2), Trial.set("a"));
        Trial.due("lie(3)", x.lie(3), Trial.set("a"));
        Trial.due("lie(4)", x.lie(4), 0);
        x.size(8);
        Trial.due("lie(0)", x.lie(0), Trial.set("bc"));
        Trial.due("lie(3)", x.lie(3), Trial.set("afgh"));
        Trial.due("lie(4)", x.lie(4), Trial.set("fgh"));
    }

    private static void anotherNumberIsOutside() {
        for (int what : new int[] {-1, 5, 6, 10, 32, 256, Trial.MIN, Trial.MIN + 1, Trial.MAX}) {
            Trial.refused("lie(" + what + ")", x -> x.lie(what), Trial.OUTSIDE);
        }
    }

    private static void nothingChanges() {
        int[] due = {Trial.set("abdg"), Trial.set("c"), Trial.set("e"), Trial.set("ef"), Trial.set("f")};
        for (int one = 0; one < 5; one++) {
            int what = one;
            Trial.changesNothing(Trial::busy, "lie(" + what + ")", x -> x.lie(what), due[what]);
        }
    }
}
