import java.lang.reflect.InvocationTargetException;
import java.lang.reflect.Method;
import java.lang.reflect.Modifier;
import java.util.Random;

/** No call throws, whatever its numbers and whatever stands: with no kitchen, small ones, full ones, late ones. */
public final class SafetyTest {
    private static final Dues D = new Dues();
    private static final int[] NUMBERS = {Integer.MIN_VALUE, Integer.MIN_VALUE + 1, -1000001, -2, -1, 0, 1, 2, 3, 4, 5,
        6, 7, 8, 9, 11, 12, 13, 24, 25, 39, 40, 41, 60, 61, 80, 255, 256, 999, 1000, 999999, 1000000, 2147483640,
        Integer.MAX_VALUE - 1, Integer.MAX_VALUE};
    private static final String[] TEXTS = {"", "na;ja;o0;", "nz;jz;r0;", "nabcdefza;jabcdefza;l9;r9;b9;s9;",
        "nabcdef;ja;r9;", "na;jabcdefzz;s9;b9;"};

    public static void main(String[] args) throws IllegalAccessException {
        for (int draw = 0; draw < 60; draw++) {
            for (String text : TEXTS) {
                allCalls(text, new Random(draw));
            }
        }
        D.end("SafetyTest");
    }

    private static void allCalls(String text, Random random) throws IllegalAccessException {
        KitchenWheels x = text.isEmpty() ? new KitchenWheels() : Dues.told(text);
        int late = random.nextInt(42);
        for (int i = 0; i < late; i++) {
            x.weeks(24);
        }
        if (random.nextBoolean()) {
            Dues.lay(x, random.nextInt(8), new int[random.nextInt(41)]);
        }
        for (Method method : KitchenWheels.class.getDeclaredMethods()) {
            for (int i = 0; i < 10 && Modifier.isPublic(method.getModifiers()); i++) {
                Object[] numbers = new Object[method.getParameterCount()];
                StringBuilder call = new StringBuilder(text).append(' ').append(method.getName());
                for (int j = 0; j < numbers.length; j++) {
                    numbers[j] = NUMBERS[random.nextInt(NUMBERS.length)];
                    call.append(' ').append(numbers[j]);
                }
                D.due(0, call.toString(), ends(method, x, numbers), 1);
            }
        }
    }

    private static int ends(Method method, KitchenWheels x, Object[] numbers) throws IllegalAccessException {
        try {
            method.invoke(x, numbers);
            return 1;
        } catch (InvocationTargetException e) {
            return 0;
        }
    }
}
