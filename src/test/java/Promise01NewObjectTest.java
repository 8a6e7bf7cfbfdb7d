/** Promise 1: a new object. */
public final class Promise01NewObjectTest {
    public static void main(String[] args) {
        Trial.run(Promise01NewObjectTest.class);
    }

    private static void thereAreEightWords() {
        WordGrounds x = new WordGrounds();
        Trial.due("count(0)", x.count(0), 8);
        Trial.due("uses(7)", x.uses(7), Trial.NONE);
        Trial.due("uses(8)", x.uses(8), Trial.UNKNOWN);
        Trial.due("size(8)", x.size(8), 8);
    }

    private static void allAreBare() {
        WordGrounds x = new WordGrounds();
        for (int word = 0; word < 8; word++) {
            Trial.due("uses(" + word + ")", x.uses(word), Trial.NONE);
            Trial.due("users(" + word + ")", x.users(word), 0);
        }
        Trial.due("lie(4)", x.lie(4), 255);
        Trial.due("count(2)", x.count(2), 0);
        Trial.due("count(3)", x.count(3), 0);
    }

    private static void eachCostIsOne() {
        WordGrounds x = new WordGrounds();
        for (int word = 0; word < 8; word++) {
            Trial.due("count(" + (10 + word) + ")", x.count(10 + word), 1);
        }
        x.size(14);
        for (int word = 8; word < 14; word++) {
            Trial.due("count(" + (10 + word) + ")", x.count(10 + word), 1);
        }
    }

    private static void nothingIsKnown() {
        WordGrounds x = new WordGrounds();
        Trial.due("count(1)", x.count(1), 0);
        Trial.due("plan(0)", x.plan(0), 255);
        Trial.due("know(1)", x.know(1), 0);
    }

    private static void theTextIsEmpty() {
        WordGrounds x = new WordGrounds();
        Trial.due("count(4)", x.count(4), 0);
        Trial.due("fault()", x.fault(), 0);
        Trial.due("wipe()", x.wipe(), 0);
    }

    private static void thereIsNoFault() {
        Trial.due("count(5)", new WordGrounds().count(5), Trial.NONE);
    }

    private static void thereIsNoImage() {
        WordGrounds x = new WordGrounds();
        Trial.due("count(6)", x.count(6), 0);
        Trial.due("restore(0)", x.restore(0), Trial.STATE);
        Trial.due("restore(1)", x.restore(1), Trial.STATE);
    }

    private static void thereIsNoRing() {
        WordGrounds x = new WordGrounds();
        Trial.due("ring(-1)", x.ring(-1), 0);
        Trial.due("lie(0)", x.lie(0), 0);
    }

    private static void anotherObjectIsNotTouched() {
        WordGrounds before = new WordGrounds();
        Trial.busy();
        Trial.sameFromHereOn("another object's calls", before, new WordGrounds(), true);
    }
}
