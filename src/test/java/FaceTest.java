import java.lang.reflect.Constructor;
import java.lang.reflect.Field;
import java.lang.reflect.Method;
import java.lang.reflect.Modifier;
import java.nio.file.Files;
import java.nio.file.Path;
import java.util.ArrayList;
import java.util.List;
import java.util.TreeSet;
import java.util.regex.Matcher;
import java.util.regex.Pattern;

/** The public face of the document, and those rules of the language that can be seen from outside or in the text. */
public final class FaceTest {
    private static final String[] FACE = {
        "int size(int)", "int say(int)", "int wipe()", "int define()", "int fault()", "int uses(int)", "int users(int)",
        "int cost(int,int)", "int grounds(int)", "int day(int,int)", "int learned(int,int)", "int know(int)",
        "int plan(int)", "int saves(int)", "int least(int)", "int way(int,int)", "int ring(int)", "int lie(int)",
        "int image(int)", "int restore(int)", "int count(int)"};
    private static final String[] CONSTANTS = {"UNKNOWN", "OUTSIDE", "STATE", "NONE", "FAULT"};
    private static final String[] NO_WORDS = {"throw", "throws", "try", "catch", "synchronized", "assert", "import",
        "package", "protected", "float", "double", "Object", "System", "Thread", "hashCode", "toString", "->", "::"};
    private static final int MOST_LINES = 60;
    private static final int MOST_CLASSES = 12;
    private static int wrong = 0;

    private static void check(boolean holds, String what) {
        if (!holds) {
            wrong++;
            System.out.println(what);
        }
    }

    public static void main(String[] args) throws Exception {
        Path source = Path.of(args.length > 0 ? args[0] : "src/main/java/WordGrounds.java");
        String code = withoutComments(Files.readString(source));
        checkClass();
        checkMethods();
        checkConstants();
        checkInnerClasses();
        checkWords(code);
        checkLengths(code);
        System.out.println(wrong == 0 ? "the face is as told" : wrong + " faults in the face");
        if (wrong != 0) {
            System.exit(1);
        }
    }

    private static String withoutComments(String code) {
        return Pattern.compile("/\\*.*?\\*/", Pattern.DOTALL).matcher(code).replaceAll("").replaceAll("//[^\n]*", "");
    }

    private static void checkClass() {
        int modifiers = WordGrounds.class.getModifiers();
        check(Modifier.isPublic(modifiers) && Modifier.isFinal(modifiers), "the class is not public and final");
        Constructor<?>[] makers = WordGrounds.class.getDeclaredConstructors();
        check(makers.length == 1 && makers[0].getParameterCount() == 0 && Modifier.isPublic(makers[0].getModifiers()),
            "there is not the one public constructor");
    }

    private static String signature(Method method) {
        StringBuilder row = new StringBuilder();
        for (Class<?> type : method.getParameterTypes()) {
            row.append(row.length() == 0 ? "" : ",").append(type.getName());
        }
        return method.getReturnType().getName() + " " + method.getName() + "(" + row + ")";
    }

    private static void checkMethods() {
        TreeSet<String> due = new TreeSet<>(List.of(FACE));
        TreeSet<String> found = new TreeSet<>();
        for (Method method : WordGrounds.class.getDeclaredMethods()) {
            if (!Modifier.isPrivate(method.getModifiers())) {
                found.add(signature(method));
                check(method.getModifiers() == Modifier.PUBLIC, method + " is not just public");
            } else {
                checkName(method, due);
            }
        }
        check(due.equals(found), "the methods are " + found + ", due are " + due);
        for (Class<?> inside : WordGrounds.class.getDeclaredClasses()) {
            for (Method method : inside.getDeclaredMethods()) {
                checkName(method, due);
            }
        }
    }

    private static void checkName(Method method, TreeSet<String> face) {
        for (String signature : face) {
            check(!signature.startsWith("int " + method.getName() + "("), method + " bears the name of a public one");
        }
    }

    private static void checkConstants() {
        TreeSet<String> found = new TreeSet<>();
        for (Field field : WordGrounds.class.getDeclaredFields()) {
            int modifiers = field.getModifiers();
            if (!Modifier.isPrivate(modifiers)) {
                found.add(field.getName());
                check(modifiers == (Modifier.PUBLIC | Modifier.STATIC | Modifier.FINAL), field + " is no public constant");
            }
            check(!Modifier.isStatic(modifiers) || Modifier.isFinal(modifiers), field + " is static, but not final");
        }
        check(found.equals(new TreeSet<>(List.of(CONSTANTS))), "the constants are " + found);
        check(WordGrounds.UNKNOWN == -1 && WordGrounds.OUTSIDE == -2 && WordGrounds.STATE == -3
            && WordGrounds.NONE == -6 && WordGrounds.FAULT == -7, "the constants have other values");
    }

    private static void checkInnerClasses() {
        Class<?>[] inside = WordGrounds.class.getDeclaredClasses();
        check(inside.length < MOST_CLASSES, "too many classes");
        for (Class<?> one : inside) {
            int modifiers = one.getModifiers();
            check(Modifier.isStatic(modifiers), one + " is not static");
            check(!Modifier.isPublic(modifiers) && !Modifier.isProtected(modifiers), one + " is seen from outside");
        }
    }

    private static void checkWords(String code) {
        for (String word : NO_WORDS) {
            boolean letters = Character.isLetter(word.charAt(0));
            String edge = letters ? "\\b" : "";
            check(!Pattern.compile(edge + Pattern.quote(word) + edge).matcher(code).find(), "the program has " + word);
        }
        check(code.chars().allMatch(sign -> sign == '\n' || sign >= 32 && sign < 127), "the program has odd signs");
        Matcher makes = Pattern.compile("new +(\\w+)").matcher(code);
        while (makes.find()) {
            check(List.of("Words", "Text", "Rings", "Tellings", "int", "long").contains(makes.group(1)),
                "the program makes " + makes.group(1));
        }
    }

    private static void checkLengths(String code) {
        List<Integer> begins = new ArrayList<>();
        String[] lines = code.split("\n", -1);
        for (int at = 0; at < lines.length; at++) {
            if (lines[at].matches(" +(public|private) .*\\(.*\\) \\{")) {
                begins.add(at);
            }
        }
        check(begins.size() > FACE.length, "no methods are found in the text");
        for (int begin : begins) {
            String indent = lines[begin].substring(0, lines[begin].length() - lines[begin].stripLeading().length());
            int end = begin;
            while (end < lines.length && !lines[end].equals(indent + "}")) {
                end++;
            }
            check(end - begin < MOST_LINES, "a long method: " + lines[begin]);
        }
    }
}
