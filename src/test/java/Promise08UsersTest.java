/** Promise 8: users. */
public final class Promise08UsersTest {
    public static void main(String[] args) {
        Trial.run(Promise08UsersTest.class);
    }

    private static void theAnswerIsTheSetOfAllThatUseIt() {
        WordGrounds x = Trial.of(4, "a:bd", "b:", "c:cd", "d:a");
        Trial.due("users(0)", x.users(0), Trial.set("d"));
        Trial.due("users(1)", x.users(1), Trial.set("a"));
        Trial.due("users(3)", x.users(3), Trial.set("ac"));
    }

    private static void noUserIsTheEmptySet() {
        WordGrounds x = Trial.of(3, "a:b", "b:b");
        Trial.due("users(0)", x.users(0), 0);
        Trial.due("users(2)", x.users(2), 0);
    }

    private static void aWordMayBeItsOwnUser() {
        WordGrounds x = Trial.of(3, "b:b");
        Trial.due("users(1)", x.users(1), Trial.set("b"));
    }

    private static void allWordsMayUseIt() {
        WordGrounds x = Trial.of(14);
        for (int word = 0; word < 14; word++) {
            Trial.define(x, (char) ('a' + word) + ":na");
        }
        Trial.due("users(13)", x.users(13), 16383);
        Trial.due("users(0)", x.users(0), 16383);
        Trial.due("users(1)", x.users(1), 0);
    }

    private static void usersOfUsersDoNotCount() {
        WordGrounds x = Trial.of(3, "a:b", "b:c");
        Trial.due("users(2)", x.users(2), Trial.set("b"));
    }

    private static void aWordThatIsBareNowUsesNone() {
        WordGrounds x = Trial.of(2, "a:b");
        Trial.define(x, "a.");
        Trial.due("users(1)", x.users(1), 0);
    }

    private static void usersThatWentAreNoUsers() {
        WordGrounds x = Trial.of(4, "a:b", "d:b");
        x.size(3);
        Trial.due("users(1)", x.users(1), Trial.set("a"));
        x.size(4);
        Trial.due("users(1)", x.users(1), Trial.set("a"));
    }

    private static void noSuchWordIsUnknown() {
        for (int word : Trial.NO_WORD_OF_7) {
            Trial.refused("users(" + word + ")", x -> x.users(word), Trial.UNKNOWN);
        }
        WordGrounds x = Trial.of(14, "a:n");
        Trial.due("users(13)", x.users(13), 1);
        Trial.due("users(14)", x.users(14), Trial.UNKNOWN);
    }

    private static void nothingChanges() {
        Trial.changesNothing(Trial::busy, "users(0)", x -> x.users(0), Trial.set("beg"));
    }
}
