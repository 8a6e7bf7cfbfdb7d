/** Promise 7: uses. */
public final class Promise07UsesTest {
    public static void main(String[] args) {
        Trial.run(Promise07UsesTest.class);
    }

    private static void theAnswerIsTheDefinition() {
        WordGrounds x = Trial.of(5, "a:bd", "e:c");
        Trial.due("uses(0)", x.uses(0), Trial.set("bd"));
        Trial.due("uses(4)", x.uses(4), Trial.set("c"));
    }

    private static void anEmptyDefinitionIsTheEmptySet() {
        WordGrounds x = Trial.of(4, "b:");
        Trial.due("uses(1)", x.uses(1), 0);
    }

    private static void aBareWordHasNone() {
        WordGrounds x = Trial.of(4, "a:d", "b:");
        Trial.due("uses(3)", x.uses(3), Trial.NONE);
        Trial.define(x, "b.");
        Trial.due("uses(1)", x.uses(1), Trial.NONE);
    }

    private static void theWordItselfMayBeInIt() {
        WordGrounds x = Trial.of(4, "c:c");
        Trial.due("uses(2)", x.uses(2), Trial.set("c"));
    }

    private static void allWordsMayBeInIt() {
        WordGrounds x = Trial.of(14, "a:abcdefghijklmn", "n:abcdefghijklmn");
        Trial.due("uses(0)", x.uses(0), 16383);
        Trial.due("uses(13)", x.uses(13), 16383);
    }

    private static void noSuchWordIsUnknown() {
        for (int word : Trial.NO_WORD_OF_7) {
            Trial.refused("uses(" + word + ")", x -> x.uses(word), Trial.UNKNOWN);
        }
        WordGrounds x = Trial.of(14, "a:", "n:");
        Trial.due("uses(14)", x.uses(14), Trial.UNKNOWN);
        Trial.due("uses(-1)", x.uses(-1), Trial.UNKNOWN);
    }

    private static void aWordThatWentIsUnknown() {
        WordGrounds x = Trial.of(8, "h:a");
        x.size(7);
        Trial.due("uses(7)", x.uses(7), Trial.UNKNOWN);
        Trial.due("uses(6)", x.uses(6), Trial.NONE);
    }

    private static void nothingChanges() {
        Trial.changesNothing(Trial::busy, "uses(6)", x -> x.uses(6), Trial.set("ag"));
        Trial.changesNothing(Trial::busy, "uses(5)", x -> x.uses(5), Trial.NONE);
    }
}
