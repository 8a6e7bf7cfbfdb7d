/** Every text of few signs, and every way to DEFINE up to three WORDS, held against the slow model. */
public final class EverySmallTest {
    private static final String SIGNS = "abc:.;";
    private static final int MOST_SIGNS = 5;
    private static final int MOST_WORDS = 3;

    private WordGrounds program;
    private Model model;
    private String row;

    public static void main(String[] args) {
        Trial.run(EverySmallTest.class);
    }

    private static void everyTextOfFewSigns() {
        for (int size = 1; size <= MOST_WORDS; size++) {
            for (int signs = 0; signs <= MOST_SIGNS; signs++) {
                for (int number = 0; number < power(SIGNS.length(), signs); number++) {
                    new EverySmallTest().checkText(size, textOf(number, signs));
                }
            }
        }
    }

    private static void everyWayToDefineFewWords() {
        for (int size = 1; size <= MOST_WORDS; size++) {
            for (int number = 0; number < power((1 << size) + 1, size); number++) {
                for (int known = 0; known < 1 << size; known++) {
                    new EverySmallTest().checkLearning(size, number, known);
                }
                new EverySmallTest().checkRings(size, number);
            }
        }
    }

    /** A WORD may be DEFINED by what goes with it: two sizes, one behind the other. */
    private static void everyWayToLoseAWord() {
        for (int size = 2; size <= MOST_WORDS; size++) {
            for (int number = 0; number < power((1 << size) + 1, size); number++) {
                new EverySmallTest().checkLoss(size, number);
            }
        }
    }

    private static int power(int base, int times) {
        int product = 1;
        for (int time = 0; time < times; time++) {
            product *= base;
        }
        return product;
    }

    private static String textOf(int number, int signs) {
        StringBuilder text = new StringBuilder();
        int rest = number;
        for (int at = 0; at < signs; at++) {
            text.append(SIGNS.charAt(rest % SIGNS.length()));
            rest /= SIGNS.length();
        }
        return text.toString();
    }

    private void begin(int size) {
        program = new WordGrounds();
        model = new Model();
        row = "";
        make("size", size, 0);
    }

    /** A call that changes something: it is told with each wrong answer behind it. */
    private void make(String name, int first, int second) {
        row = row + name + "(" + first + ", " + second + ") ";
        look(name, first, second);
    }

    private void look(String name, int first, int second) {
        int got = Trial.call(program, name, first, second);
        Trial.due(row + "then " + name + "(" + first + ", " + second + ")", got, model.call(name, first, second));
    }

    private void lookAtAll(String name, int from, int to) {
        for (int first = from; first <= to; first++) {
            look(name, first, 0);
        }
    }

    private void say(String text) {
        for (int at = 0; at < text.length(); at++) {
            make("say", text.charAt(at), 0);
        }
    }

    private void checkText(int size, String text) {
        begin(size);
        say(text);
        look("fault", 0, 0);
        make("define", 0, 0);
        lookAtAll("count", 2, 5);
        lookAtAll("uses", 0, size);
    }

    /** Each WORD takes one figure of the number: 0 is BARE, any other one a DEFINITION and 1. */
    private void defineAll(int size, int number) {
        int figures = (1 << size) + 1;
        int rest = number;
        for (int word = 0; word < size; word++) {
            StringBuilder text = new StringBuilder().append((char) ('a' + word));
            int set = rest % figures - 1;
            text.append(set < 0 ? '.' : ':');
            for (int used = 0; used < size; used++) {
                if (set > 0 && (set >> used & 1) != 0) {
                    text.append((char) ('a' + used));
                }
            }
            say(text.toString());
            make("define", 0, 0);
            rest /= figures;
        }
    }

    private void checkLearning(int size, int number, int known) {
        begin(size);
        defineAll(size, number);
        make("know", known, 0);
        lookAtPlans(size);
        lookAtAll("least", 0, 1);
        lookAtAll("least", 10, 10 + size);
        lookAtAll("grounds", 0, 1 << size);
        for (int day = 0; day <= size + 1; day++) {
            look("learned", known, day);
        }
        for (int word = 0; word < size; word++) {
            look("day", word, known);
        }
        lookAtDearerWords(size);
    }

    /** From the last WORD down: so a set of a greater number and fewer WORDS comes to COST as little as another one. */
    private void lookAtDearerWords(int size) {
        for (int word = size - 1; word >= 0; word--) {
            make("cost", word, 3);
            lookAtPlans(size);
            make("cost", word, 2);
            lookAtPlans(size);
        }
    }

    private void lookAtPlans(int size) {
        lookAtAll("plan", 0, 3);
        lookAtAll("saves", 0, size);
    }

    private void checkRings(int size, int number) {
        begin(size);
        defineAll(size, number);
        lookAtUses(size);
    }

    private void lookAtUses(int size) {
        lookAtAll("ring", -1, size);
        lookAtAll("lie", 0, 4);
        lookAtAll("uses", 0, size);
        lookAtAll("users", 0, size);
        lookAtAll("count", 0, 3);
        lookAtAll("count", 10, 10 + size);
        for (int from = 0; from < size; from++) {
            for (int to = 0; to < size; to++) {
                look("way", from, to);
            }
        }
    }

    private void checkLoss(int size, int number) {
        begin(size);
        defineAll(size, number);
        make("know", (1 << size) - 2, 0);
        make("cost", size - 1, 2);
        make("image", 0, 0);
        look("least", 0, 0);
        make("size", size - 1, 0);
        lookAtUses(size - 1);
        lookAtPlans(size - 1);
        look("least", 0, 0);
        make("size", size, 0);
        lookAtUses(size);
        lookAtPlans(size);
        look("least", 0, 0);
        make("restore", 0, 0);
        lookAtUses(size);
        lookAtPlans(size);
        look("least", 0, 0);
    }
}
