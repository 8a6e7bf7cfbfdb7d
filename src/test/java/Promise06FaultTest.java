/** Promise 6: fault, and what THE TEXT and its FAULT are. */
public final class Promise06FaultTest {
    public static void main(String[] args) {
        Trial.run(Promise06FaultTest.class);
    }

    /** fault() and define() tell of the same FAULT. */
    private static void faultOf(int size, String text, int want) {
        WordGrounds x = Trial.of(size);
        Trial.say(x, text);
        Trial.due("fault() of '" + text + "' with SIZE " + size, x.fault(), want);
        Trial.due("fault() of it again", x.fault(), want);
        Trial.due("define() of it is refused", x.define() == Trial.FAULT ? 1 : 0, want == Trial.NONE ? 0 : 1);
        Trial.due("the place that define() told", x.count(5), want);
    }

    private static void theEmptyTextIsABeginningOfNoSigns() {
        faultOf(8, "", 0);
        faultOf(1, "", 0);
        faultOf(14, "", 0);
    }

    private static void aLetterAloneIsABeginningOfOneSign() {
        faultOf(8, "a", 1);
        faultOf(8, "h", 1);
        faultOf(14, "n", 1);
        faultOf(1, "a", 1);
    }

    private static void theFirstSignIsALetterOfAWordThatThereIs() {
        faultOf(8, "i", 0);
        faultOf(8, "i:", 0);
        faultOf(8, "n.", 0);
        faultOf(1, "b:", 0);
        faultOf(13, "n:", 0);
        faultOf(14, "o:", 0);
        faultOf(14, "`:", 0);
        faultOf(14, "A:", 0);
        faultOf(14, "z:", 0);
        faultOf(14, "0:", 0);
        faultOf(14, ":a", 0);
        faultOf(14, ".", 0);
        faultOf(14, "!", 0);
        faultOf(14, "~", 0);
    }

    private static void theSecondSignIsAColonOrAPoint() {
        faultOf(8, "ab", 1);
        faultOf(8, "aa", 1);
        faultOf(8, "a;", 1);
        faultOf(8, "a9", 1);
        faultOf(8, "a-", 1);
        faultOf(8, "a/", 1);
        faultOf(8, "a!:", 1);
        faultOf(8, "a~.", 1);
    }

    private static void noLettersBehindTheColonAreFine() {
        faultOf(8, "a:", Trial.NONE);
        faultOf(1, "a:", Trial.NONE);
        faultOf(14, "n:", Trial.NONE);
    }

    private static void lettersBehindTheColonAreOfWordsThatThereAre() {
        faultOf(8, "a:h", Trial.NONE);
        faultOf(8, "a:i", 2);
        faultOf(8, "a:bcdi", 5);
        faultOf(8, "a:`", 2);
        faultOf(8, "a:B", 2);
        faultOf(8, "a:.", 2);
        faultOf(8, "a::", 2);
        faultOf(8, "a:b.", 3);
        faultOf(8, "a:b:", 3);
        faultOf(8, "a:b,c", 3);
        faultOf(1, "a:b", 2);
        faultOf(13, "a:n", 2);
        faultOf(14, "a:n", Trial.NONE);
        faultOf(14, "a:o", 2);
        faultOf(14, "a:!", 2);
        faultOf(14, "a:~", 2);
    }

    private static void noLetterBehindTheColonComesTwice() {
        faultOf(8, "a:bb", 3);
        faultOf(8, "a:bcb", 4);
        faultOf(8, "a:abcdefgha", 10);
        faultOf(8, "a:abcdefghh", 10);
        faultOf(1, "a:aa", 3);
    }

    private static void theLetterBeforeTheColonMayComeBehindIt() {
        faultOf(8, "a:a", Trial.NONE);
        faultOf(8, "c:abc", Trial.NONE);
        faultOf(1, "a:a", Trial.NONE);
    }

    private static void allLettersInAnyOrderAreFine() {
        faultOf(8, "h:hgfedcba", Trial.NONE);
        faultOf(14, "a:abcdefghijklmn", Trial.NONE);
        faultOf(14, "n:nmlkjihgfedcba", Trial.NONE);
        faultOf(14, "g:bdfhjlnacegikm", Trial.NONE);
    }

    private static void onePointAndNothingMore() {
        faultOf(8, "a.", Trial.NONE);
        faultOf(8, "h.", Trial.NONE);
        faultOf(8, "a..", 2);
        faultOf(8, "a.:", 2);
        faultOf(8, "a.b", 2);
        faultOf(8, "a.!", 2);
        faultOf(8, "a.bbbb", 2);
    }

    private static void theFirstOfSeveralFaultsIsTold() {
        faultOf(8, "!!", 0);
        faultOf(8, "i;", 0);
        faultOf(8, "a;bb", 1);
        faultOf(8, "a:bbi", 3);
        faultOf(8, "a:ibb", 2);
    }

    private static void aFullTextHasItsFaultBehindAllLetters() {
        faultOf(14, "n:abcdefghijklmnaaaa", 16);
        faultOf(14, "n:abcdefghijklmn....", 16);
        faultOf(14, "n:abcdefghijklmno", 16);
        faultOf(8, "h:hgfedcbaijklmnopqr", 10);
        faultOf(8, "aaaaaaaaaaaaaaaaaaaa", 1);
    }

    private static void theTextIsAsItIsNow() {
        WordGrounds x = new WordGrounds();
        int[] due = {0, 1, Trial.NONE, Trial.NONE, 3, 3};
        String text = "a:bbc";
        for (int signs = 0; signs <= text.length(); signs++) {
            Trial.due("fault() of " + signs + " signs", x.fault(), due[signs]);
            if (signs < text.length()) {
                x.say(text.charAt(signs));
            }
        }
        x.wipe();
        Trial.due("fault() of none", x.fault(), 0);
    }

    private static void theSizeIsAsItIsNow() {
        WordGrounds x = Trial.of(3);
        Trial.say(x, "b:ac");
        Trial.due("fault()", x.fault(), Trial.NONE);
        x.size(2);
        Trial.due("fault()", x.fault(), 3);
        x.size(1);
        Trial.due("fault()", x.fault(), 0);
        x.size(14);
        Trial.due("fault()", x.fault(), Trial.NONE);
    }

    private static void nothingChanges() {
        Trial.changesNothing(Trial::busy, "fault()", WordGrounds::fault, Trial.NONE);
    }

    private static void thePlaceThatDefineToldStays() {
        WordGrounds x = new WordGrounds();
        Trial.say(x, "a:bb");
        Trial.due("fault()", x.fault(), 3);
        Trial.due("define() has told none: count(5)", x.count(5), Trial.NONE);
        x.define();
        x.wipe();
        x.say('a');
        Trial.due("fault()", x.fault(), 1);
        Trial.due("define() told 3: count(5)", x.count(5), 3);
    }
}
