import java.io.IOException;
import java.lang.reflect.Constructor;
import java.lang.reflect.Field;
import java.lang.reflect.Method;
import java.lang.reflect.Modifier;
import java.nio.file.Files;
import java.nio.file.Path;
import java.util.Arrays;
import java.util.List;
import java.util.Set;
import java.util.TreeSet;
import java.util.stream.Collectors;

/** The public face, as the document writes it, and those rules of LANGUAGE.md that can be seen from outside. */
final class FaceTests {
    private static final String[] FACE = {
        "int type(char) IllegalArgumentException IllegalStateException",
        "int wipe()",
        "int add() UnsupportedOperationException IllegalStateException",
        "int insert(int int) IndexOutOfBoundsException UnsupportedOperationException IllegalArgumentException",
        "int cut(int int int) IndexOutOfBoundsException IllegalArgumentException",
        "int remove(int) IndexOutOfBoundsException",
        "int documents(int) IndexOutOfBoundsException",
        "boolean has(int int) IndexOutOfBoundsException",
        "int lengthOf(int int) IndexOutOfBoundsException",
        "char letterAt(int int int) IndexOutOfBoundsException NoSuchElementException",
        "int snapshot() IllegalStateException",
        "int drop(int) IndexOutOfBoundsException",
        "int keep()",
        "int crash()",
        "int suffixAt(int int char) IndexOutOfBoundsException NoSuchElementException IllegalArgumentException",
        "int rankOf(int int int) IndexOutOfBoundsException NoSuchElementException",
        "char turned(int int) IndexOutOfBoundsException NoSuchElementException",
        "int runs(int) IndexOutOfBoundsException",
        "int ahead(int char int) IndexOutOfBoundsException IllegalArgumentException",
        "int interval(int int boolean) IndexOutOfBoundsException UnsupportedOperationException"
            + " IllegalArgumentException",
        "int count(int) IndexOutOfBoundsException UnsupportedOperationException",
        "int found(int int boolean) IndexOutOfBoundsException UnsupportedOperationException NoSuchElementException",
        "int having(int) IndexOutOfBoundsException UnsupportedOperationException",
        "int top(int int) IndexOutOfBoundsException UnsupportedOperationException NoSuchElementException",
        "int limited(int int) IndexOutOfBoundsException UnsupportedOperationException IllegalArgumentException",
        "int near(int int char) IndexOutOfBoundsException UnsupportedOperationException IllegalArgumentException",
        "int matches(int) IndexOutOfBoundsException UnsupportedOperationException",
        "int learn() UnsupportedOperationException IllegalStateException",
        "int countOf(int int) IndexOutOfBoundsException",
        "int longestAt(int int int) IndexOutOfBoundsException NoSuchElementException",
        "int longestRepeat(int) IndexOutOfBoundsException",
        "int maximal(int) IndexOutOfBoundsException",
        "int common(int int) IndexOutOfBoundsException IllegalArgumentException",
        "int unique(int int) IndexOutOfBoundsException NoSuchElementException",
        "int squares(int int) IndexOutOfBoundsException",
        "int palindromes(int int int) IndexOutOfBoundsException IllegalArgumentException",
        "int phrases(int int) IndexOutOfBoundsException",
        "int phraseAt(int int int char) IndexOutOfBoundsException NoSuchElementException IllegalArgumentException",
        "int pieces(int int int) IndexOutOfBoundsException",
        "int rules(int int boolean) IndexOutOfBoundsException",
        "int distance(int int int) IndexOutOfBoundsException",
        "int segments()",
        "int segmentOf(int) IndexOutOfBoundsException",
        "int dead(int) IndexOutOfBoundsException",
        "boolean tidy()",
        "int cost(boolean) UnsupportedOperationException",
        "long checksum(int) IndexOutOfBoundsException",
        "float runShare(int) IndexOutOfBoundsException NoSuchElementException",
        "double meanCommon(int) IndexOutOfBoundsException NoSuchElementException",
        "boolean isSound()",
    };
    private static final String[] RULED_OUT = {
        "\\bcatch\\b", "\\bfinally\\b", "\\bsynchronized\\b", "\\bassert\\b", "->", "::", "\\bimport (?!java\\.util\\."
            + "(Arrays|NoSuchElementException);)", "\\bpackage\\b", "\\bprotected\\b", "\"\\s*\\+", "\\+\\s*\"",
        "\\bprintln\\b", "\\bhashCode\\b", "\\btoString\\b", "\\bequals\\b", "Exact\\b", "\\[\\]\\[\\]\\[\\]",
    };

    private FaceTests() {
    }

    static void check(Checks checks, Path source) throws IOException {
        checkMethods(checks);
        checkOtherMembers(checks);
        checkClasses(checks);
        checkWords(checks, Files.readString(source));
        checkLengths(checks, Files.readAllLines(source));
    }

    private static String told(Method method) {
        String types = Arrays.stream(method.getParameterTypes()).map(Class::getSimpleName)
            .collect(Collectors.joining(" "));
        String thrown = Arrays.stream(method.getExceptionTypes()).map(type -> " " + type.getSimpleName())
            .collect(Collectors.joining());
        return method.getReturnType().getSimpleName() + " " + method.getName() + "(" + types + ")" + thrown;
    }

    private static void checkMethods(Checks checks) {
        Set<String> due = new TreeSet<>(List.of(FACE));
        Set<String> open = new TreeSet<>();
        Set<String> names = new TreeSet<>();
        for (Method method : Suffixhall.class.getDeclaredMethods()) {
            if (Modifier.isPublic(method.getModifiers())) {
                names.add(method.getName());
            }
            if (!Modifier.isPrivate(method.getModifiers())) {
                open.add(told(method));
            } else {
                checks.isTrue("no private method is named " + method.getName(), !named(method.getName()));
            }
        }
        checks.same("the methods of the face", due.toString(), open.toString());
        checks.same("one method a name", "50", String.valueOf(names.size()));
    }

    private static boolean named(String name) {
        return Arrays.stream(FACE).anyMatch(line -> line.contains(" " + name + "("));
    }

    private static void checkOtherMembers(Checks checks) {
        int modifiers = Suffixhall.class.getModifiers();
        checks.isTrue("public and final", Modifier.isPublic(modifiers) && Modifier.isFinal(modifiers));
        Constructor<?>[] constructors = Suffixhall.class.getDeclaredConstructors();
        checks.isTrue("one public constructor without parameters", constructors.length == 1
            && Modifier.isPublic(constructors[0].getModifiers()) && constructors[0].getParameterCount() == 0);
        for (Field field : Suffixhall.class.getDeclaredFields()) {
            checks.isTrue("the field " + field.getName() + " is private", Modifier.isPrivate(field.getModifiers()));
            checks.isTrue("the field " + field.getName() + " is no static state",
                !Modifier.isStatic(field.getModifiers()) || Modifier.isFinal(field.getModifiers()));
        }
    }

    private static void checkClasses(Checks checks) {
        Class<?>[] classes = Suffixhall.class.getDeclaredClasses();
        checks.isTrue("some twelve classes at most", classes.length < 12);
        for (Class<?> inside : classes) {
            checks.isTrue(inside + " is static, and not public", Modifier.isStatic(inside.getModifiers())
                && !Modifier.isPublic(inside.getModifiers()));
            checks.isTrue(inside + " has some twenty fields at most", inside.getDeclaredFields().length <= 20);
            for (Method method : inside.getDeclaredMethods()) {
                checks.isTrue(method + " has a name of its own", !named(method.getName()));
                checks.isTrue(method + " has seven parameters at most", method.getParameterCount() <= 7);
            }
        }
    }

    private static void checkWords(Checks checks, String source) {
        String code = source.replaceAll("(?s)/\\*.*?\\*/", "").replaceAll("//.*", "");
        for (String pattern : RULED_OUT) {
            checks.isTrue("the class has no " + pattern, !java.util.regex.Pattern.compile(pattern).matcher(code).find());
        }
    }

    private static void checkLengths(Checks checks, List<String> lines) {
        int begin = 0;
        for (int i = 0; i < lines.size(); i++) {
            String line = lines.get(i);
            checks.isTrue("line " + (i + 1) + " has 120 characters at most", line.length() <= 120);
            boolean isHead = line.endsWith("{") && line.contains("(") && line.matches(" {4}( {4})?\\S.*");
            if (isHead) {
                begin = i;
            }
            if (line.matches(" {4}( {4})?\\}")) {
                checks.isTrue("what ends in line " + (i + 1) + " has sixty lines at most", i - begin <= 60
                    || line.startsWith("    }"));
            }
        }
    }
}
