import java.io.IOException;
import java.lang.reflect.Constructor;
import java.lang.reflect.Field;
import java.lang.reflect.Method;
import java.lang.reflect.Modifier;
import java.nio.file.Files;
import java.nio.file.Path;
import java.util.Arrays;
import java.util.List;
import java.util.Set;
import java.util.TreeSet;
import java.util.regex.Matcher;
import java.util.regex.Pattern;

/** The rules of LANGUAGE.md that a look at the class and at its text can show. */
public final class LanguageTest {
    private static final Path SOURCE = Path.of("src/main/java/EchoesFirst.java");
    private static final String FACE = "back(int) begin(int,int,int,int) clear() count(int) deeds(int) done(int,int) "
        + "far(int,int) first(int) forget() heard(int,int,int,int) keep(int) makes(int,int) mark(int,int) "
        + "moves(int,int) nobody() now(int) odds(int,int,int) person(int,int) played(int,int,int) second() sit(int) "
        + "sure(int,int) together(int,int,int) trace() type(int) undo() valley() who(int)";
    private static final List<String> FORBIDDEN = List.of("\\bthrow\\b", "\\btry\\b", "\\bcatch\\b",
        "\\bsynchronized\\b", "\\bassert\\b", "->", "::", "\\bimport\\b", "\\bpackage\\b", "\\bnull\\b",
        "\\binstanceof\\b", "Exact\\b", "\\bSystem\\b", "\\bThread\\b", "\\bRandom\\b", "\\bvar\\b", "\\byield\\b",
        "\"", "@", "\\bprotected\\b", "\\btoString\\b", "\\bequals\\b", "\\bhashCode\\b");

    public static void main(String[] args) throws IOException {
        face();
        classesInside();
        text();
        noObjectsBesideConstructors();
        methodsAreShort();
        Check.end();
    }

    private static String signature(Method method) {
        String row = Arrays.toString(method.getParameterTypes());
        return method.getName() + "(" + row.substring(1, row.length() - 1).replace(" ", "") + ")";
    }

    private static void face() {
        Set<String> open = new TreeSet<>();
        Set<String> openNames = new TreeSet<>();
        for (Method method : EchoesFirst.class.getDeclaredMethods()) {
            if (Modifier.isPublic(method.getModifiers())) {
                open.add(signature(method));
                openNames.add(method.getName());
                Check.isTrue(method + " is of the object", !Modifier.isStatic(method.getModifiers()));
                boolean isTrace = method.getName().equals("trace");
                Check.isTrue(method + " answers", method.getReturnType() == (isTrace ? long.class : int.class));
            }
        }
        Check.same("the face", String.join(" ", open), FACE);
        for (Method method : EchoesFirst.class.getDeclaredMethods()) {
            int modifiers = method.getModifiers();
            Check.isTrue(method + " is public or private", Modifier.isPublic(modifiers) || Modifier.isPrivate(modifiers)
                || method.isSynthetic());
            Check.isTrue(method + " has its own name", Modifier.isPublic(modifiers)
                || !openNames.contains(method.getName()));
        }
        Set<String> constants = new TreeSet<>();
        for (Field field : EchoesFirst.class.getDeclaredFields()) {
            int modifiers = field.getModifiers();
            if (Modifier.isPublic(modifiers)) {
                constants.add(field.getName() + " " + field.getType());
            }
            Check.isTrue(field + " is public or private",
                Modifier.isPublic(modifiers) || Modifier.isPrivate(modifiers));
        }
        Check.same("the constants", constants.toString(), "[BAD int, FULL int, NO int, NONE int, STATE int]");
        Check.isTrue("the class is final", Modifier.isFinal(EchoesFirst.class.getModifiers()));
        Constructor<?>[] constructors = EchoesFirst.class.getDeclaredConstructors();
        Check.due("constructors", constructors.length, 1);
        Check.due("what the constructor takes", constructors[0].getParameterCount(), 0);
    }

    private static void classesInside() {
        Set<String> openNames = new TreeSet<>();
        for (Method method : EchoesFirst.class.getMethods()) {
            openNames.add(method.getName());
        }
        Class<?>[] inside = EchoesFirst.class.getDeclaredClasses();
        Check.isTrue("at most twelve classes", inside.length + 1 <= 12);
        for (Class<?> one : inside) {
            Check.isTrue(one + " is static", Modifier.isStatic(one.getModifiers()));
            Check.isTrue(one + " has no class inside", one.getDeclaredClasses().length == 0);
            Check.isTrue(one + " is neither public nor protected",
                (one.getModifiers() & (Modifier.PUBLIC | Modifier.PROTECTED)) == 0);
            for (Method method : one.getDeclaredMethods()) {
                Check.isTrue(method + " has its own name", !openNames.contains(method.getName()));
            }
        }
        for (Class<?> one : List.of(inside)) {
            checkFields(one);
        }
        checkFields(EchoesFirst.class);
    }

    private static void checkFields(Class<?> one) {
        int own = 0;
        for (Field field : one.getDeclaredFields()) {
            boolean isStatic = Modifier.isStatic(field.getModifiers());
            own += isStatic ? 0 : 1;
            Check.isTrue(field + " is a constant if static", !isStatic || Modifier.isFinal(field.getModifiers()));
        }
        Check.isTrue(one + " has at most twenty fields", own <= 20);
    }

    private static void methodsAreShort() throws IOException {
        for (Class<?> one : EchoesFirst.class.getDeclaredClasses()) {
            takeFew(one);
        }
        takeFew(EchoesFirst.class);
        int methods = 0;
        int first = 0;
        List<String> lines = Files.readAllLines(SOURCE);
        for (int k = 0; k < lines.size(); k++) {
            String line = lines.get(k);
            if (line.matches(" {4}(?: {4})?(?!(if|for|while|switch|do|else)\\b)\\w.*\\) \\{")) {
                methods++;
                first = k;
            }
            if (line.matches(" {4}(?: {4})?\\}")) {
                Check.isTrue("at most sixty lines: " + lines.get(first).trim(), k - first < 60);
            }
        }
        Check.isTrue("methods are found", methods > 90);
    }

    private static void takeFew(Class<?> one) {
        for (Method method : one.getDeclaredMethods()) {
            Check.isTrue(method + " takes at most seven", method.getParameterCount() <= 7);
        }
    }

    private static String withoutComments(String source) {
        return source.replaceAll("(?s)/\\*.*?\\*/", " ").replaceAll("//[^\n]*", " ");
    }

    private static void text() throws IOException {
        String code = withoutComments(Files.readString(SOURCE));
        for (String one : FORBIDDEN) {
            Matcher matcher = Pattern.compile(one).matcher(code);
            Check.isTrue("the code is free of " + one, !matcher.find());
        }
    }

    /** Objects and arrays are made in constructors alone, so that no run fills the room. */
    private static void noObjectsBesideConstructors() throws IOException {
        String method = "";
        for (String line : withoutComments(Files.readString(SOURCE)).split("\n")) {
            Matcher head = Pattern.compile("^ {4,8}(?:\\w+(?:\\[\\])? )*(\\w+)\\([^;]*\\{$").matcher(line);
            if (head.find()) {
                method = head.group(1);
            }
            boolean isMade = Pattern.compile("\\bnew\\b").matcher(line).find();
            Check.isTrue("made in " + method + ": " + line.trim(), !isMade || Character.isUpperCase(method.charAt(0)));
        }
    }
}
