import java.io.IOException;
import java.lang.reflect.Constructor;
import java.lang.reflect.Executable;
import java.lang.reflect.Field;
import java.lang.reflect.Method;
import java.lang.reflect.Modifier;
import java.nio.file.Files;
import java.nio.file.Path;
import java.util.ArrayList;
import java.util.Arrays;
import java.util.List;
import java.util.Set;
import java.util.TreeSet;
import java.util.regex.Matcher;
import java.util.regex.Pattern;

/** The document's face, and of ../shared/LANGUAGE.md what can be seen from outside and in the text. */
public final class RulesTest {
    private static final Dues D = new Dues();
    private static final String[] FACE = {"row(3)", "set(3)", "copy(5)", "drop(1)", "feed(1)", "kitchen(0)", "fault(0)",
        "undo(0)", "weeks(1)", "leave(1)", "name(2)", "job(2)", "turn(1)", "done(2)", "slot(2)", "turner(2)",
        "hasJobs(2)", "whoDoes(2)", "often(3)", "meets(2)", "allMet(0)", "round(0)", "fairest(2)", "owed(1)",
        "right(4)", "twice(0)", "seen(4)", "who(4)", "pairs(1)", "forgets(5)", "drawn(3)", "image(1)", "restore(1)",
        "kind(1)", "as(2)", "ask(2)", "trace(1)", "count(1)", "status(0)"};

    public static void main(String[] args) throws IOException {
        faceIsWhole();
        classesAreSmall();
        String source = Files.readString(Path.of("src/main/java/KitchenWheels.java"));
        wordsAreAllowed(source.replaceAll("(?s)/\\*.*?\\*/|//[^\n]*", ""));
        methodsAreShort(source);
        D.end("RulesTest");
    }

    private static void isTrue(String what, boolean is) {
        D.due(1, what, is ? 1 : 0, 1);
    }

    private static void faceIsWhole() {
        Class<?> face = KitchenWheels.class;
        isTrue("the class is public and final", face.getModifiers() == (Modifier.PUBLIC | Modifier.FINAL));
        Set<String> open = new TreeSet<>();
        Set<String> names = new TreeSet<>();
        for (Method method : face.getDeclaredMethods()) {
            if (!Modifier.isPrivate(method.getModifiers())) {
                isTrue(method + " is public", method.getModifiers() == Modifier.PUBLIC);
                Class<?> answer = method.getName().equals("forgets") ? long.class : int.class;
                isTrue(method + " answers " + answer, method.getReturnType() == answer);
                isTrue(method + " takes ints", Arrays.stream(method.getParameterTypes()).allMatch(t -> t == int.class));
                open.add(method.getName() + "(" + method.getParameterCount() + ")");
                names.add(method.getName());
            }
        }
        isTrue("the face is " + open, open.equals(new TreeSet<>(List.of(FACE))));
        for (Class<?> one : all()) {
            for (Method method : one.getDeclaredMethods()) {
                boolean own = one == face && Modifier.isPublic(method.getModifiers());
                isTrue(method + " bears a name of the face", own || !names.contains(method.getName()));
            }
        }
        Constructor<?>[] constructors = face.getDeclaredConstructors();
        isTrue("one constructor", constructors.length == 1 && constructors[0].getModifiers() == Modifier.PUBLIC
            && constructors[0].getParameterCount() == 0);
        Set<String> constants = new TreeSet<>();
        for (Field field : face.getDeclaredFields()) {
            if (!Modifier.isPrivate(field.getModifiers())) {
                constants.add(field.getName());
            }
        }
        isTrue("the constants are " + constants, constants.equals(Set.of("NONE", "BAD", "STATE", "FULL")));
    }

    private static List<Class<?>> all() {
        List<Class<?>> all = new ArrayList<>(List.of(KitchenWheels.class.getDeclaredClasses()));
        all.add(KitchenWheels.class);
        return all;
    }

    private static void classesAreSmall() {
        isTrue("at most twelve classes", all().size() <= 12);
        for (Class<?> one : all()) {
            int fields = 0;
            for (Field field : one.getDeclaredFields()) {
                boolean fixed = Modifier.isStatic(field.getModifiers());
                isTrue(field + " is final, if static", !fixed || Modifier.isFinal(field.getModifiers()));
                fields += fixed ? 0 : 1;
            }
            isTrue(one + " has at most twenty fields", fields <= 20);
            isTrue(one + " is static", one == KitchenWheels.class || Modifier.isStatic(one.getModifiers()));
            List<Executable> calls = new ArrayList<>(List.of(one.getDeclaredMethods()));
            calls.addAll(List.of(one.getDeclaredConstructors()));
            for (Executable call : calls) {
                isTrue(call + " takes at most seven", call.getParameterCount() <= 7);
            }
        }
    }

    private static void wordsAreAllowed(String code) {
        String[] out = {"\\b(throw|throws|try|catch|finally|synchronized|assert|package|volatile|native|transient)\\b",
            "->", "::", "@", "\"", "\\bObject\\b", "\\bSystem\\.(?!arraycopy\\b)", "\\bArrays\\.(?!fill\\b)",
            "\\bMath\\.(?!max\\b|min\\b|abs\\b)", "\\bInteger\\.(?!bitCount\\b)", "\\bLong\\.", "\\bThread\\b",
            "\\bRandom\\b", "\\bstatic\\s*\\{", "\\b(hashCode|toString|equals|getClass)\\b", "[^\\x00-\\x7f]",
            "\\bimport (?!java\\.util\\.Arrays;)", "\\bdouble\\b", "\\bfloat\\b", "\\bvar\\b"};
        for (String word : out) {
            Matcher matcher = Pattern.compile(word).matcher(code);
            isTrue("no " + word, !matcher.find());
        }
    }

    private static void methodsAreShort(String source) {
        int begin = 0;
        String[] lines = source.split("\n");
        String indent = null;
        for (int i = 0; i < lines.length; i++) {
            Matcher opening = Pattern.compile("^( {4}| {8})[a-z].*\\) \\{$").matcher(lines[i]);
            if (indent == null && opening.matches()) {
                indent = opening.group(1);
                begin = i;
            } else if (indent != null && lines[i].equals(indent + "}")) {
                isTrue("the method at line " + (begin + 1) + " is short", i - begin < 60);
                indent = null;
            }
        }
        isTrue("every method ends", indent == null);
    }
}
