/** The promises of the document one by one: ordinary calls, the edges that it names, wrong arguments. */
public final class PromiseTest {
    private static final int MIN = Integer.MIN_VALUE;
    private static final int MAX = Integer.MAX_VALUE;
    private static int promise = 0;
    private static int wrong = 0;

    private static void due(String call, int got, int want) {
        if (got != want) {
            wrong++;
            System.out.println("promise " + promise + ": " + call + " answered " + got + ", due is " + want);
        }
    }

    private static void say(WordGrounds x, String text) {
        for (int at = 0; at < text.length(); at++) {
            x.say(text.charAt(at));
        }
    }

    private static void define(WordGrounds x, String text) {
        say(x, text);
        if (x.define() == WordGrounds.FAULT) {
            wrong++;
            System.out.println("promise " + promise + ": the text " + text + " was refused");
        }
    }

    private static WordGrounds of(int size, String... texts) {
        WordGrounds x = new WordGrounds();
        x.size(size);
        for (String text : texts) {
            define(x, text);
        }
        return x;
    }

    /** The set of the letters of a text. */
    private static int set(String letters) {
        int set = 0;
        for (int at = 0; at < letters.length(); at++) {
            set |= 1 << letters.charAt(at) - 'a';
        }
        return set;
    }

    public static void main(String[] args) {
        newObject();
        size();
        say();
        wipe();
        define();
        fault();
        uses();
        users();
        cost();
        grounds();
        day();
        learned();
        know();
        plan();
        saves();
        least();
        way();
        ring();
        lie();
        image();
        restore();
        count();
        System.out.println(wrong == 0 ? "all promises hold" : wrong + " answers are not as due");
        if (wrong != 0) {
            System.exit(1);
        }
    }

    private static void newObject() {
        promise = 1;
        WordGrounds x = new WordGrounds();
        due("count(0)", x.count(0), 8);
        due("count(1)", x.count(1), 0);
        due("count(2)", x.count(2), 0);
        due("count(3)", x.count(3), 0);
        due("count(4)", x.count(4), 0);
        due("count(5)", x.count(5), WordGrounds.NONE);
        due("count(6)", x.count(6), 0);
        for (int word = 0; word < 8; word++) {
            due("uses", x.uses(word), WordGrounds.NONE);
            due("COST", x.count(10 + word), 1);
        }
        due("lie(4)", x.lie(4), 255);
        due("restore(0)", x.restore(0), WordGrounds.STATE);
        due("restore(1)", x.restore(1), WordGrounds.STATE);
    }

    private static void size() {
        promise = 2;
        WordGrounds x = new WordGrounds();
        for (int n : new int[] {0, -1, 15, MIN, MAX}) {
            due("size(" + n + ")", x.size(n), WordGrounds.OUTSIDE);
        }
        due("count(0)", x.count(0), 8);
        due("size(14)", x.size(14), 8);
        due("size(1)", x.size(1), 14);
        due("size(3)", x.size(3), 1);
        define(x, "a:bc");
        define(x, "b:c");
        define(x, "c:a");
        x.cost(2, 7);
        x.know(set("ac"));
        due("size(3) again", x.size(3), 3);
        due("uses(2)", x.uses(2), 1);
        due("COST of c", x.count(12), 7);
        due("size(2)", x.size(2), 3);
        due("uses(0)", x.uses(0), 2);
        due("a DEFINITION that loses all is empty, not none", x.uses(1), 0);
        due("THE KNOWN", x.count(1), 1);
        due("count(2)", x.count(2), 2);
        due("uses(2)", x.uses(2), WordGrounds.UNKNOWN);
        due("size(3)", x.size(3), 2);
        due("a WORD that comes is BARE", x.uses(2), WordGrounds.NONE);
        due("its COST", x.count(12), 1);
        due("uses(0)", x.uses(0), 2);
        due("THE KNOWN", x.count(1), 1);
        say(x, "c:a");
        x.size(2);
        due("THE TEXT stays", x.count(4), 3);
        due("its FAULT", x.fault(), 0);
        x.size(3);
        due("its FAULT", x.fault(), WordGrounds.NONE);
    }

    private static void say() {
        promise = 3;
        WordGrounds x = new WordGrounds();
        for (int sign : new int[] {32, 127, 0, -1, 97 + 256, MIN, MAX}) {
            due("say(" + sign + ")", x.say(sign), WordGrounds.OUTSIDE);
        }
        due("say(33)", x.say(33), 1);
        due("say(126)", x.say(126), 2);
        for (int n = 3; n <= 20; n++) {
            due("say('a')", x.say('a'), n);
        }
        due("say behind 20 signs", x.say('a'), WordGrounds.STATE);
        due("OUTSIDE comes before STATE", x.say(32), WordGrounds.OUTSIDE);
        due("count(4)", x.count(4), 20);
    }

    private static void wipe() {
        promise = 4;
        WordGrounds x = new WordGrounds();
        due("wipe()", x.wipe(), 0);
        say(x, "abcdefghijklmnopqrstu");
        due("wipe()", x.wipe(), 20);
        due("wipe()", x.wipe(), 0);
        due("count(4)", x.count(4), 0);
        due("fault()", x.fault(), 0);
        due("say('a')", x.say('a'), 1);
    }

    private static void defines(WordGrounds x, String text, int want) {
        say(x, text);
        due("define() of " + text, x.define(), want);
        due("signs behind it", x.count(4), want == WordGrounds.FAULT ? text.length() : 0);
        x.wipe();
    }

    private static void define() {
        promise = 5;
        WordGrounds x = new WordGrounds();
        defines(x, "a:cb", 2);
        due("uses(0)", x.uses(0), 6);
        defines(x, "a:aa", WordGrounds.FAULT);
        due("uses(0)", x.uses(0), 6);
        due("count(5)", x.count(5), 3);
        defines(x, "a:", 0);
        due("uses(0)", x.uses(0), 0);
        due("the FAULT that was told stays", x.count(5), 3);
        defines(x, "a.", WordGrounds.NONE);
        due("uses(0)", x.uses(0), WordGrounds.NONE);
        defines(x, "h:h", 1);
        due("uses(7)", x.uses(7), 128);
        defines(x, "i:h", WordGrounds.FAULT);
        due("count(5)", x.count(5), 0);
        defines(x, "h:i", WordGrounds.FAULT);
        due("count(5)", x.count(5), 2);
        due("uses(7)", x.uses(7), 128);
        defines(x, "h", WordGrounds.FAULT);
        due("count(5)", x.count(5), 1);
        defines(x, "h..", WordGrounds.FAULT);
        due("uses(7)", x.uses(7), 128);
        defines(x, "h:gfedcba", 7);
        due("uses(7)", x.uses(7), 127);
        x.cost(7, 4);
        defines(x, "h.", WordGrounds.NONE);
        due("COST stays", x.count(17), 4);
        x.size(14);
        defines(x, "n:nmlkjihgfedcba", 14);
        due("uses(13)", x.uses(13), 16383);
    }

    private static void faultOf(int size, String text, int want) {
        WordGrounds x = of(size);
        say(x, text);
        due("fault() of " + text + " with SIZE " + size, x.fault(), want);
        due("fault() again", x.fault(), want);
        due("define() of it", x.define() == WordGrounds.FAULT ? 1 : 0, want == WordGrounds.NONE ? 0 : 1);
        due("place that define() told", x.count(5), want);
    }

    private static void fault() {
        promise = 6;
        faultOf(8, "", 0);
        faultOf(8, "a", 1);
        faultOf(8, "a:", WordGrounds.NONE);
        faultOf(8, "a.", WordGrounds.NONE);
        faultOf(8, "a..", 2);
        faultOf(8, "a.:", 2);
        faultOf(8, "a.b", 2);
        faultOf(8, "a:.", 2);
        faultOf(8, "a::", 2);
        faultOf(8, "a:b.", 3);
        faultOf(8, "a:b:", 3);
        faultOf(8, "ab", 1);
        faultOf(8, "a;", 1);
        faultOf(8, ":a", 0);
        faultOf(8, ".", 0);
        faultOf(8, "A:b", 0);
        faultOf(8, "a:B", 2);
        faultOf(8, "`:", 0);
        faultOf(8, "a:`", 2);
        faultOf(8, "h:hgfedcba", WordGrounds.NONE);
        faultOf(8, "h:hgfedcbai", 10);
        faultOf(8, "h:hgfedcbah", 10);
        faultOf(8, "a:bcb", 4);
        faultOf(8, "i:", 0);
        faultOf(1, "a:a", WordGrounds.NONE);
        faultOf(1, "a:b", 2);
        faultOf(1, "b.", 0);
        faultOf(14, "n:abcdefghijklmn", WordGrounds.NONE);
        faultOf(14, "n:abcdefghijklmno", 16);
        faultOf(14, "n:abcdefghijklmnaaaa", 16);
        faultOf(14, "o:", 0);
        WordGrounds x = new WordGrounds();
        say(x, "a:bb");
        x.fault();
        due("fault() tells, but define() has not told", x.count(5), WordGrounds.NONE);
    }

    private static void unknown(String call, int first, int second) {
        due(call + " below", first, WordGrounds.UNKNOWN);
        due(call + " above", second, WordGrounds.UNKNOWN);
    }

    private static void uses() {
        promise = 7;
        WordGrounds x = of(4, "a:bd", "b:", "c:c");
        due("uses(0)", x.uses(0), set("bd"));
        due("uses(1)", x.uses(1), 0);
        due("uses(2)", x.uses(2), set("c"));
        due("uses(3)", x.uses(3), WordGrounds.NONE);
        unknown("uses", x.uses(-1), x.uses(4));
        unknown("uses", x.uses(MIN), x.uses(MAX));
    }

    private static void users() {
        promise = 8;
        WordGrounds x = of(4, "a:bd", "b:", "c:cd", "d:a");
        due("users(0)", x.users(0), set("d"));
        due("users(1)", x.users(1), set("a"));
        due("users(2)", x.users(2), set("c"));
        due("users(3)", x.users(3), set("ac"));
        define(x, "d.");
        due("users(0)", x.users(0), 0);
        unknown("users", x.users(-1), x.users(4));
        unknown("users", x.users(MIN), x.users(MAX));
    }

    private static void cost() {
        promise = 9;
        WordGrounds x = of(4);
        due("cost(3, 9)", x.cost(3, 9), 1);
        due("cost(3, 1)", x.cost(3, 1), 9);
        due("cost(3, 5)", x.cost(3, 5), 1);
        for (int n : new int[] {0, 10, -1, MIN, MAX}) {
            due("cost(3, " + n + ")", x.cost(3, n), WordGrounds.OUTSIDE);
        }
        due("count(13)", x.count(13), 5);
        due("count(12)", x.count(12), 1);
        unknown("cost", x.cost(-1, 2), x.cost(4, 2));
        unknown("UNKNOWN comes before OUTSIDE: cost", x.cost(-1, 0), x.cost(4, 10));
    }

    private static void grounds() {
        promise = 10;
        WordGrounds x = of(5, "a:b", "b:c", "c:", "d:de");
        due("grounds(0)", x.grounds(0), set("abc"));
        due("grounds of e", x.grounds(set("e")), set("abce"));
        due("grounds of d", x.grounds(set("d")), set("abcd"));
        due("grounds of de", x.grounds(set("de")), set("abcde"));
        for (int set : new int[] {32, -1, 33, MIN, MAX}) {
            due("grounds(" + set + ")", x.grounds(set), WordGrounds.OUTSIDE);
        }
        x.know(set("de"));
        due("THE KNOWN counts not", x.grounds(0), set("abc"));
        due("nothing is learned from calls", x.count(1), set("de"));
        due("a chain of 14", chain().grounds(set("n")), 16383);
    }

    /** a USES b, b USES c and so on, to m, which USES n; n is BARE. */
    private static WordGrounds chain() {
        WordGrounds x = of(14);
        for (int word = 0; word < 13; word++) {
            define(x, (char) ('a' + word) + ":" + (char) ('b' + word));
        }
        return x;
    }

    private static void day() {
        promise = 11;
        WordGrounds x = of(5, "a:b", "b:c", "c:", "d:de");
        due("c from nothing", x.day(2, 0), 1);
        due("b from nothing", x.day(1, 0), 2);
        due("a from nothing", x.day(0, 0), 3);
        due("d from nothing", x.day(3, 0), WordGrounds.NONE);
        due("d from e", x.day(3, set("e")), WordGrounds.NONE);
        due("d from d", x.day(3, set("d")), 0);
        due("e from nothing", x.day(4, 0), WordGrounds.NONE);
        due("a from b", x.day(0, set("b")), 1);
        unknown("day", x.day(-1, 0), x.day(5, 0));
        unknown("UNKNOWN comes before OUTSIDE: day", x.day(-1, -1), x.day(5, 32));
        due("day(0, 32)", x.day(0, 32), WordGrounds.OUTSIDE);
        due("day(0, -1)", x.day(0, -1), WordGrounds.OUTSIDE);
        due("a chain of 14", chain().day(0, set("n")), 13);
        WordGrounds y = chain();
        define(y, "n:");
        due("a chain of 14 from nothing", y.day(0, 0), 14);
    }

    private static void learned() {
        promise = 12;
        WordGrounds x = of(5, "a:b", "b:c", "c:", "d:de", "e:");
        due("DAY 1", x.learned(0, 1), set("ce"));
        due("DAY 2", x.learned(0, 2), set("b"));
        due("DAY 3", x.learned(0, 3), set("a"));
        due("DAY 4", x.learned(0, 4), 0);
        due("DAY 14", x.learned(0, 14), 0);
        due("DAY 1 from b", x.learned(set("b"), 1), set("ace"));
        due("DAY 1 from c", x.learned(set("c"), 1), set("be"));
        for (int day : new int[] {0, 15, -1, MIN, MAX}) {
            due("learned(0, " + day + ")", x.learned(0, day), WordGrounds.OUTSIDE);
        }
        due("learned(32, 1)", x.learned(32, 1), WordGrounds.OUTSIDE);
        due("learned(-1, 1)", x.learned(-1, 1), WordGrounds.OUTSIDE);
        WordGrounds y = chain();
        define(y, "n:");
        due("DAY 14 of a chain", y.learned(0, 14), set("a"));
        due("DAY 13 of a chain", y.learned(0, 13), set("b"));
    }

    private static void know() {
        promise = 13;
        WordGrounds x = of(4);
        due("know(15)", x.know(15), 0);
        due("know(5)", x.know(5), 15);
        for (int set : new int[] {16, -1, 17, MIN, MAX}) {
            due("know(" + set + ")", x.know(set), WordGrounds.OUTSIDE);
        }
        due("know(0)", x.know(0), 5);
        due("count(1)", x.count(1), 0);
    }

    private static void planIs(WordGrounds x, int set, int cost, int words, int days) {
        due("plan(0)", x.plan(0), set);
        due("plan(1)", x.plan(1), cost);
        due("plan(2)", x.plan(2), words);
        due("plan(3)", x.plan(3), days);
    }

    private static void plan() {
        promise = 14;
        WordGrounds x = of(3, "a:b", "b:c", "c:a");
        planIs(x, set("a"), 1, 1, 2);
        x.cost(0, 2);
        planIs(x, set("b"), 1, 1, 2);
        x.know(set("c"));
        planIs(x, 0, 0, 0, 2);
        x.know(set("ab"));
        planIs(x, 0, 0, 0, 1);
        define(x, "c.");
        planIs(x, set("c"), 1, 1, 0);
        for (int what : new int[] {4, -1, 10, MIN, MAX}) {
            due("plan(" + what + ")", x.plan(what), WordGrounds.OUTSIDE);
        }
        WordGrounds y = of(3, "a:b", "b:ac", "c:b");
        planIs(y, set("b"), 1, 1, 1);
        y.cost(1, 2);
        planIs(y, set("b"), 2, 1, 1);
        y.cost(1, 3);
        planIs(y, set("ac"), 2, 2, 1);
        define(y, "b:abc");
        planIs(y, set("b"), 3, 1, 1);
        WordGrounds z = of(4, "a:b", "b:a", "c:d", "d:c");
        planIs(z, set("ac"), 2, 2, 1);
        z.know(set("d"));
        planIs(z, set("a"), 1, 1, 1);
        z.size(3);
        planIs(z, set("a"), 1, 1, 1);
        z.size(4);
        planIs(z, set("ad"), 2, 2, 1);
        planIs(of(2, "a:a", "b:b"), set("ab"), 2, 2, 0);
        planIs(of(2, "a:", "b:a"), 0, 0, 0, 2);
        planIs(new WordGrounds(), 255, 8, 8, 0);
        planIs(chain(), set("n"), 1, 1, 13);
    }

    private static void saves() {
        promise = 15;
        WordGrounds x = of(4, "a:b", "b:a", "c:ab");
        x.cost(0, 3);
        x.cost(1, 5);
        x.cost(3, 7);
        due("saves(0)", x.saves(0), 3);
        due("saves(1)", x.saves(1), 3);
        due("saves(2)", x.saves(2), 0);
        due("saves(3)", x.saves(3), 7);
        x.know(set("d"));
        due("saves(3)", x.saves(3), 0);
        due("saves(1)", x.saves(1), 3);
        due("THE KNOWN stays", x.count(1), set("d"));
        unknown("saves", x.saves(-1), x.saves(4));
        unknown("saves", x.saves(MIN), x.saves(MAX));
        WordGrounds y = of(3, "a:b", "b:ac", "c:b");
        y.cost(1, 9);
        due("saves(0)", y.saves(0), 1);
        due("saves(1)", y.saves(1), 2);
    }

    private static void least() {
        promise = 16;
        WordGrounds x = of(3, "a:b", "b:ac", "c:b");
        due("least(0)", x.least(0), 2);
        due("least(1)", x.least(1), 2);
        due("least(10)", x.least(10), 1);
        due("least(11)", x.least(11), 1);
        due("least(12)", x.least(12), 1);
        x.know(7);
        due("THE KNOWN counts not", x.least(0), 2);
        for (int what : new int[] {2, 9, 13, -1, -10, MIN, MAX}) {
            due("least(" + what + ")", x.least(what), WordGrounds.OUTSIDE);
        }
        WordGrounds y = of(2, "a:", "b:a");
        due("the empty set alone", y.least(0), 1);
        due("it has none", y.least(1), 0);
        due("least(10)", y.least(10), 0);
        due("least(12)", y.least(12), WordGrounds.OUTSIDE);
        WordGrounds z = of(14);
        for (int word = 0; word < 14; word++) {
            char letter = (char) ('a' + word);
            define(z, letter + ":" + "abcdefghijklmn".replace("" + letter, ""));
        }
        due("all but one of 14", z.least(0), 14);
        due("13 of them", z.least(1), 13);
        due("each in 13 of these", z.least(23), 13);
        due("THE PLAN of them", z.plan(0), 8191);
    }

    private static void way() {
        promise = 17;
        WordGrounds x = of(5, "a:b", "b:c", "c:ad", "d:d");
        due("a to a", x.way(0, 0), 3);
        due("a to b", x.way(0, 1), 1);
        due("a to d", x.way(0, 3), 3);
        due("d to d", x.way(3, 3), 1);
        due("d to a", x.way(3, 0), WordGrounds.NONE);
        due("e to e", x.way(4, 4), WordGrounds.NONE);
        due("e to a", x.way(4, 0), WordGrounds.NONE);
        unknown("way", x.way(-1, 0), x.way(5, 0));
        unknown("way", x.way(0, -1), x.way(0, 5));
        unknown("way", x.way(MIN, MAX), x.way(MAX, MIN));
        WordGrounds y = chain();
        due("the whole chain", y.way(0, 13), 13);
        define(y, "n:a");
        due("the whole ring", y.way(0, 0), 14);
        define(y, "a:bn");
        due("the shortest", y.way(0, 0), 2);
    }

    private static void ring() {
        promise = 18;
        WordGrounds x = of(8, "f:f", "b:g", "g:b", "a:bc", "c:de", "d:c", "e:d");
        due("ring(-1)", x.ring(-1), 3);
        due("ring(0)", x.ring(0), set("bg"));
        due("ring(1)", x.ring(1), set("cde"));
        due("ring(2)", x.ring(2), set("f"));
        due("ring(3)", x.ring(3), WordGrounds.NONE);
        due("ring(MAX)", x.ring(MAX), WordGrounds.NONE);
        due("ring(-2)", x.ring(-2), WordGrounds.OUTSIDE);
        due("ring(MIN)", x.ring(MIN), WordGrounds.OUTSIDE);
        define(x, "g:ba");
        due("two RINGS, joined by a one-way WAY, stay two", x.ring(-1), 3);
        due("ring(0)", x.ring(0), set("abg"));
        define(x, "e:dg");
        due("joined both ways they are one", x.ring(0), set("abcdeg"));
        due("ring(1)", x.ring(1), set("f"));
        due("ring(2)", x.ring(2), WordGrounds.NONE);
        WordGrounds y = of(14);
        for (int word = 0; word < 14; word++) {
            define(y, (char) ('a' + word) + ":" + (char) ('a' + word));
        }
        due("ring(-1)", y.ring(-1), 14);
        due("ring(13)", y.ring(13), 8192);
        due("ring(14)", y.ring(14), WordGrounds.NONE);
    }

    private static void lie() {
        promise = 19;
        WordGrounds x = of(8, "a:b", "b:cd", "c:b", "d:e", "e:f", "f:eg", "h:h");
        due("in RINGS", x.lie(0), set("bcefh"));
        due("BEFORE: between two, and at the end", x.lie(1), set("dg"));
        due("BEHIND: at the beginning, and between two", x.lie(2), set("ad"));
        due("no WORD USES", x.lie(3), set("a"));
        due("BARE", x.lie(4), set("g"));
        define(x, "g:");
        due("an empty DEFINITION is one", x.lie(4), 0);
        for (int what : new int[] {-1, 5, 10, MIN, MAX}) {
            due("lie(" + what + ")", x.lie(what), WordGrounds.OUTSIDE);
        }
        x.size(3);
        due("only WORDS that there are", x.lie(3), set("a"));
        define(x, "b.");
        due("in RINGS", x.lie(0), 0);
        due("BEFORE", x.lie(1), 0);
        due("BEHIND", x.lie(2), 0);
        due("no WORD USES", x.lie(3), set("ac"));
        due("BARE", x.lie(4), set("b"));
    }

    private static void image() {
        promise = 20;
        WordGrounds x = of(3, "a:b");
        for (int k : new int[] {-1, 2, MIN, MAX}) {
            due("image(" + k + ")", x.image(k), WordGrounds.OUTSIDE);
        }
        due("count(6)", x.count(6), 0);
        due("image(1)", x.image(1), 1);
        due("count(6)", x.count(6), 2);
        due("restore(0)", x.restore(0), WordGrounds.STATE);
        x.size(2);
        due("image(1) in place of what was kept", x.image(1), 1);
        x.size(5);
        x.restore(1);
        due("SIZE", x.count(0), 2);
        due("image(0)", x.image(0), 1);
        due("count(6)", x.count(6), 3);
    }

    private static void restore() {
        promise = 21;
        WordGrounds x = of(9, "a:b", "b:a", "i:a");
        x.cost(8, 4);
        x.cost(0, 3);
        x.know(set("ci"));
        x.image(0);
        int planned = x.plan(0);
        x.size(2);
        define(x, "a.");
        x.cost(0, 9);
        x.know(0);
        x.image(1);
        say(x, "a:bb");
        x.define();
        due("THE PLAN of the changed WORDS", x.plan(0), set("a"));
        due("restore(0)", x.restore(0), 1);
        due("SIZE", x.count(0), 9);
        due("COST", x.count(10), 3);
        due("COST", x.count(18), 4);
        due("DEFINITION", x.uses(0), 2);
        due("DEFINITION", x.uses(8), 1);
        due("THE KNOWN", x.count(1), set("ci"));
        due("THE PLAN", x.plan(0), planned);
        due("THE TEXT stays", x.count(4), 4);
        due("the FAULT stays", x.count(5), 3);
        due("IMAGES", x.count(6), 3);
        x.size(1);
        due("the IMAGE stays", x.restore(0), 1);
        due("SIZE", x.count(0), 9);
        due("restore(1)", x.restore(1), 1);
        due("SIZE", x.count(0), 2);
        due("DEFINITION", x.uses(0), WordGrounds.NONE);
        x.size(9);
        due("a WORD that comes is BARE", x.uses(8), WordGrounds.NONE);
        due("its COST", x.count(18), 1);
        for (int k : new int[] {-1, 2, MIN, MAX}) {
            due("restore(" + k + ")", x.restore(k), WordGrounds.OUTSIDE);
        }
    }

    private static void count() {
        promise = 22;
        WordGrounds x = of(4, "a:abc", "b:", "c:d");
        x.cost(3, 6);
        x.know(9);
        x.image(1);
        say(x, "d!");
        x.define();
        due("count(0)", x.count(0), 4);
        due("count(1)", x.count(1), 9);
        due("count(2)", x.count(2), 3);
        due("count(3)", x.count(3), 4);
        due("count(4)", x.count(4), 2);
        due("count(5)", x.count(5), 1);
        due("count(6)", x.count(6), 2);
        due("count(13)", x.count(13), 6);
        for (int what : new int[] {7, 9, 14, -1, -10, MIN, MAX}) {
            due("count(" + what + ")", x.count(what), WordGrounds.OUTSIDE);
        }
        x.wipe();
        define(x, "d:");
        due("the FAULT stays when one has none", x.count(5), 1);
        x.size(14);
        due("count(23)", x.count(23), 1);
        due("count(24)", x.count(24), WordGrounds.OUTSIDE);
        x.size(3);
        due("count(2)", x.count(2), 3);
        due("count(3)", x.count(3), 3);
    }
}
