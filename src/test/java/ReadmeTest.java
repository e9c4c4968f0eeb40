import java.io.IOException;
import java.lang.reflect.InvocationTargetException;
import java.lang.reflect.Method;
import java.nio.file.Files;
import java.nio.file.Path;
import java.util.regex.Matcher;
import java.util.regex.Pattern;

/** README.md names every call of the document's face, every test, and answers in its example that hold. */
public final class ReadmeTest {
    private static final Dues D = new Dues();

    public static void main(String[] args) throws IOException, ReflectiveOperationException {
        String page = Files.readString(Path.of("README.md"));
        callsAreNamed(page, Files.readString(Path.of("../shared/DOC.md")));
        testsAreNamed(page);
        exampleHolds(page);
        D.end("ReadmeTest");
    }

    private static void isTrue(String what, boolean is) {
        D.due(0, what, is ? 1 : 0, 1);
    }

    private static void callsAreNamed(String page, String document) {
        Matcher call = Pattern.compile("public (?:int|long) (\\w+\\([^)]*\\));").matcher(document);
        int calls = 0;
        while (call.find()) {
            String plain = call.group(1).replace("int ", "");
            isTrue("README.md names " + plain, page.contains("`" + plain + "`"));
            calls++;
        }
        D.due(0, "calls of the document's face", calls, 39);
        for (int code : new int[] {Dues.NONE, Dues.BAD, Dues.STATE, Dues.FULL, Dues.NULL, Dues.PLACE, Dues.KIND,
            Dues.SIZE, Dues.STORE}) {
            isTrue("README.md names " + code, page.contains(String.valueOf(code)));
        }
    }

    private static void testsAreNamed(String page) throws IOException {
        try (var files = Files.newDirectoryStream(Path.of("src/test/java"), "*Test.java")) {
            for (Path file : files) {
                String test = file.getFileName().toString().replace(".java", "");
                isTrue("README.md names " + test, page.contains(test));
            }
        }
        Matcher test = Pattern.compile("\\b[A-Z]\\w+Test\\b").matcher(page);
        while (test.find()) {
            isTrue(test.group() + " is there", Files.exists(Path.of("src/test/java", test.group() + ".java")));
        }
    }

    /** The example's calls in their order; the number at the head of a comment is due. */
    private static void exampleHolds(String page) throws IllegalAccessException, InvocationTargetException {
        Matcher text = Pattern.compile("String text = \"([^\"]*)\"").matcher(page);
        isTrue("the example has a text", text.find());
        KitchenWheels wheels = new KitchenWheels();
        for (int i = 0; i < text.group(1).length(); i++) {
            wheels.feed(text.group(1).charAt(i));
        }
        Matcher call = Pattern.compile("(?m)^wheels\\.(\\w+)\\(([^)]*)\\);(?: *// (-?\\d+))?").matcher(page);
        int calls = 0;
        while (call.find()) {
            isTrue(call.group() + " tells its answer", call.group(3) != null);
            long got = answer(wheels, call.group(1), call.group(2));
            D.due(0, call.group(), got, Long.parseLong(call.group(3)));
            calls++;
        }
        isTrue("the example calls", calls > 0);
    }

    private static long answer(KitchenWheels wheels, String name, String list)
            throws IllegalAccessException, InvocationTargetException {
        String[] words = list.isEmpty() ? new String[0] : list.split(", ");
        Object[] numbers = new Object[words.length];
        for (int i = 0; i < words.length; i++) {
            numbers[i] = Integer.valueOf(words[i]);
        }
        for (Method method : KitchenWheels.class.getMethods()) {
            if (method.getName().equals(name) && method.getParameterCount() == numbers.length) {
                return ((Number) method.invoke(wheels, numbers)).longValue();
            }
        }
        throw new IllegalStateException("no such call: " + name);
    }
}
