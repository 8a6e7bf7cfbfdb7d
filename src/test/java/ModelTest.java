import java.util.Random;

/** Long runs of calls with fixed seeds, each answer held against a slow model that follows the document's words. */
public final class ModelTest {
    /** An object is used for at most 512 calls; the last one may bring a define() along. */
    private static final int CALLS = 511;

    public static void main(String[] args) {
        for (int seed = 1; seed <= 300; seed++) {
            Random random = new Random(seed);
            int greatest = seed % 10 == 0 ? 14 : 1 + random.nextInt(9);
            if (!runAgrees(seed, random, greatest)) {
                System.exit(1);
            }
        }
        System.out.println("the program and the model agree");
    }

    private static boolean runAgrees(int seed, Random random, int greatest) {
        WordGrounds program = new WordGrounds();
        Model model = new Model();
        StringBuilder row = new StringBuilder();
        String text = "";
        for (int made = 0; made < CALLS; made++) {
            String name;
            int first = 0;
            int second = 0;
            if (made == 0) {
                name = "size";
                first = greatest;
            } else if (!text.isEmpty()) {
                name = "say";
                first = text.charAt(0);
                text = text.substring(1);
            } else {
                name = pick(random);
                first = argument(random, model.words());
                second = argument(random, model.words());
                if (name.equals("size") && random.nextInt(4) != 0) {
                    first = 1 + random.nextInt(greatest);
                }
                if (name.equals("text")) {
                    name = random.nextInt(8) == 0 ? "define" : "wipe";
                    text = text(random, model.words());
                }
            }
            int got = Trial.call(program, name, first, second);
            int want = model.call(name, first, second);
            row.append(' ').append(name).append('(').append(first).append(", ").append(second).append(")=").append(got);
            if (got != want) {
                System.out.println("seed " + seed + ":" + row + ", due is " + want);
                return false;
            }
            if (name.equals("say") && text.isEmpty()) {
                made++;
                int told = program.define();
                int due = model.call("define", 0, 0);
                row.append(" define()=").append(told);
                if (told != due) {
                    System.out.println("seed " + seed + ":" + row + ", due is " + due);
                    return false;
                }
            }
        }
        return true;
    }

    private static final String[] NAMES = {"text", "text", "text", "text", "say", "wipe", "define", "fault", "uses", "users",
        "cost", "cost", "grounds", "day", "learned", "know", "plan", "plan", "saves", "least", "way", "ring", "lie",
        "image", "restore", "count"};

    private static String pick(Random random) {
        return random.nextInt(60) == 0 ? "size" : NAMES[random.nextInt(NAMES.length)];
    }

    private static int argument(Random random, int size) {
        switch (random.nextInt(12)) {
            case 0:
                return new int[] {Integer.MIN_VALUE, Integer.MAX_VALUE, -1, -2, size, 1 << size, -10}[random.nextInt(7)];
            case 1:
                return random.nextInt(140);
            case 2:
                return 10 + random.nextInt(size + 1);
            case 3:
            case 4:
            case 5:
                return random.nextInt(1 << size);
            case 6:
            case 7:
                return random.nextInt(size);
            default:
                return random.nextInt(5);
        }
    }

    private static String text(Random random, int size) {
        StringBuilder text = new StringBuilder();
        text.append((char) ('a' + random.nextInt(size)));
        if (random.nextInt(12) == 0) {
            return text.append('.').toString();
        }
        text.append(':');
        int seen = 0;
        for (int letters = random.nextInt(Math.min(size, 4) + 1); letters > 0; letters--) {
            int word = random.nextInt(size);
            if ((seen >> word & 1) == 0 || random.nextInt(10) == 0) {
                text.append((char) ('a' + word));
            }
            seen |= 1 << word;
        }
        if (random.nextInt(15) == 0) {
            text.setCharAt(random.nextInt(text.length()), (char) (33 + random.nextInt(94)));
        }
        return text.toString();
    }
}
