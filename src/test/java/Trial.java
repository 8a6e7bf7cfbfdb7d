import java.lang.reflect.InvocationTargetException;
import java.lang.reflect.Method;
import java.lang.reflect.Modifier;
import java.util.Arrays;
import java.util.Comparator;
import java.util.function.Supplier;

/** What the tests of the promises share: how they are run, and how an object is made and looked at. */
final class Trial {
    static final int MIN = Integer.MIN_VALUE;
    static final int MAX = Integer.MAX_VALUE;
    static final int UNKNOWN = WordGrounds.UNKNOWN;
    static final int OUTSIDE = WordGrounds.OUTSIDE;
    static final int STATE = WordGrounds.STATE;
    static final int NONE = WordGrounds.NONE;
    static final int FAULT = WordGrounds.FAULT;
    /** The kinds of numbers that are no WORD where SIZE is 7; of some the shift or the sum wraps around. */
    static final int[] NO_WORD_OF_7 = {-1, 7, 8, 13, 14, 31, 32, 33, 64, -32, MIN, MIN + 1, MAX};
    /** The same for sets of WORDS. */
    static final int[] NO_SET_OF_7 = {128, 129, 255, 8192, 16383, 1 << 30, -1, -128, MIN, MIN + 1, MAX};

    private static String test = "";
    private static int looks = 0;
    private static int wrong = 0;

    /** One call of an object. */
    interface Call {
        int on(WordGrounds x);
    }

    private Trial() {
    }

    /** Runs each test of a class: every static method that takes nothing and answers nothing. */
    static void run(Class<?> tests) {
        Method[] methods = tests.getDeclaredMethods();
        Arrays.sort(methods, Comparator.comparing(Method::getName));
        int ran = 0;
        for (Method method : methods) {
            if (Modifier.isStatic(method.getModifiers()) && !method.isSynthetic()
                && method.getParameterCount() == 0 && method.getReturnType() == void.class) {
                runOne(tests.getName(), method);
                ran++;
            }
        }
        if (ran == 0) {
            fail("there is no test in " + tests.getName());
        }
        System.out.println(wrong == 0 ? ran + " tests hold" : wrong + " answers are not as due");
        if (wrong != 0) {
            System.exit(1);
        }
    }

    private static void runOne(String className, Method method) {
        test = className + "." + method.getName();
        looks = 0;
        try {
            method.setAccessible(true);
            method.invoke(null);
        } catch (InvocationTargetException thrown) {
            fail("threw " + thrown.getCause());
        } catch (IllegalAccessException closed) {
            fail("could not be called");
        }
        if (looks == 0) {
            fail("looked at nothing");
        }
    }

    private static void fail(String what) {
        wrong++;
        System.out.println(test + ": " + what);
    }

    static void due(String call, int got, int want) {
        looks++;
        if (got != want) {
            fail(call + " answered " + got + ", due is " + want);
        }
    }

    static void say(WordGrounds x, String text) {
        for (int at = 0; at < text.length(); at++) {
            x.say(text.charAt(at));
        }
    }

    static int define(WordGrounds x, String text) {
        say(x, text);
        int answer = x.define();
        if (answer == FAULT) {
            fail("the text " + text + " was refused");
        }
        return answer;
    }

    /** The call of a name; one that takes fewer numbers leaves the rest aside. */
    static int call(WordGrounds x, String name, int first, int second) {
        switch (name) {
            case "size": return x.size(first);
            case "say": return x.say(first);
            case "wipe": return x.wipe();
            case "define": return x.define();
            case "fault": return x.fault();
            case "uses": return x.uses(first);
            case "users": return x.users(first);
            case "cost": return x.cost(first, second);
            case "grounds": return x.grounds(first);
            case "day": return x.day(first, second);
            case "learned": return x.learned(first, second);
            case "know": return x.know(first);
            case "plan": return x.plan(first);
            case "saves": return x.saves(first);
            case "least": return x.least(first);
            case "way": return x.way(first, second);
            case "ring": return x.ring(first);
            case "lie": return x.lie(first);
            case "image": return x.image(first);
            case "restore": return x.restore(first);
            case "count": return x.count(first);
            default: throw new IllegalStateException(name);
        }
    }

    /** So many WORDS, DEFINED by texts. */
    static WordGrounds of(int size, String... texts) {
        WordGrounds x = new WordGrounds();
        x.size(size);
        for (String text : texts) {
            define(x, text);
        }
        return x;
    }

    /** The set of the letters of a text. */
    static int set(String letters) {
        int set = 0;
        for (int at = 0; at < letters.length(); at++) {
            set |= 1 << letters.charAt(at) - 'a';
        }
        return set;
    }

    /** 14 WORDS: a USES b, b USES c and so on, to m, which USES n; what n does is told by its text. */
    static WordGrounds chain(String last) {
        WordGrounds x = of(14);
        for (int word = 0; word < 13; word++) {
            define(x, (char) ('a' + word) + ":" + (char) ('b' + word));
        }
        define(x, last);
        return x;
    }

    /** 14 WORDS, each of which USES all others, but not itself. */
    static WordGrounds tangle() {
        WordGrounds x = of(14);
        for (int word = 0; word < 14; word++) {
            char letter = (char) ('a' + word);
            define(x, letter + ":" + "abcdefghijklmn".replace("" + letter, ""));
        }
        return x;
    }

    /** SIZE 7; both IMAGES, THE TEXT and the place of the FAULT hold something, each something else. */
    static WordGrounds busy() {
        WordGrounds x = of(6, "a:b", "b:ac", "c:b", "d:d", "e:a");
        x.cost(0, 3);
        x.cost(1, 7);
        x.cost(5, 4);
        x.know(set("df"));
        x.image(0);
        x.size(5);
        define(x, "c:");
        x.cost(2, 5);
        x.know(set("a"));
        x.image(1);
        x.size(7);
        define(x, "g:ag");
        x.cost(6, 2);
        x.know(set("b"));
        say(x, "a:x");
        x.define();
        x.wipe();
        say(x, "b:de");
        return x;
    }

    /** The call answers as due, and the object stays the same as a twin on which it was not made. */
    static void changesNothing(Supplier<WordGrounds> maker, String name, Call call, int want) {
        WordGrounds called = maker.get();
        WordGrounds twin = maker.get();
        due(name, call.on(called), want);
        sameFromHereOn(name, called, twin, true);
    }

    static void refused(String name, Call call, int want) {
        changesNothing(Trial::busy, name, call, want);
    }

    /** define() is refused, tells the place, and changes nothing else. */
    static void refusedText(int size, String text, int place) {
        Supplier<WordGrounds> maker = () -> {
            WordGrounds x = busy();
            x.wipe();
            x.size(size);
            say(x, text);
            return x;
        };
        WordGrounds called = maker.get();
        WordGrounds twin = maker.get();
        due("define() of '" + text + "'", called.define(), FAULT);
        due("the place in '" + text + "'", called.count(5), place);
        sameFromHereOn("define() of '" + text + "'", called, twin, false);
    }

    /** Looks at both objects, then at what THE TEXT and the IMAGES of both bring to light. */
    static void sameFromHereOn(String name, WordGrounds called, WordGrounds twin, boolean placeToo) {
        sameNow("behind " + name, called, twin, placeToo);
        both("define() behind " + name, called, twin, WordGrounds::define);
        sameNow("DEFINED behind " + name, called, twin, true);
        for (int k = 0; k < 2; k++) {
            int image = k;
            both("restore(" + k + ") behind " + name, called, twin, x -> x.restore(image));
            sameNow("restored(" + k + ") behind " + name, called, twin, true);
        }
    }

    private static void sameNow(String name, WordGrounds called, WordGrounds twin, boolean placeToo) {
        for (int what = 0; what < 24; what++) {
            int asked = what;
            if (what != 5 || placeToo) {
                both("count(" + what + ") " + name, called, twin, x -> x.count(asked));
            }
        }
        for (int one = 0; one < 14; one++) {
            int word = one;
            both("uses(" + word + ") " + name, called, twin, x -> x.uses(word));
        }
        for (int one = 0; one < 5; one++) {
            int what = one;
            both("lie(" + what + ") " + name, called, twin, x -> x.lie(what));
        }
        both("fault() " + name, called, twin, WordGrounds::fault);
        both("grounds(1) " + name, called, twin, x -> x.grounds(1));
        both("plan(0) " + name, called, twin, x -> x.plan(0));
        both("plan(3) " + name, called, twin, x -> x.plan(3));
        both("saves(0) " + name, called, twin, x -> x.saves(0));
        both("least(0) " + name, called, twin, x -> x.least(0));
        both("ring(0) " + name, called, twin, x -> x.ring(0));
        both("way(0, 0) " + name, called, twin, x -> x.way(0, 0));
    }

    private static void both(String name, WordGrounds called, WordGrounds twin, Call call) {
        due(name, call.on(called), call.on(twin));
    }
}
