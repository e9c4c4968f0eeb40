import java.lang.reflect.Field;
import java.lang.reflect.InvocationTargetException;
import java.lang.reflect.Method;
import java.lang.reflect.Modifier;
import java.util.Random;

/**
 * No call throws, whatever its numbers and whatever stands: with no kitchen, small ones, full ones, late ones; and, as
 * each index is to be tested where it is used, not even if the counts inside are wrong.
 */
public final class SafetyTest {
    private static final Dues D = new Dues();
    private static final int[] NUMBERS = {Integer.MIN_VALUE, Integer.MIN_VALUE + 1, -1000001, -2, -1, 0, 1, 2, 3, 4, 5,
        6, 7, 8, 9, 11, 12, 13, 24, 25, 39, 40, 41, 60, 61, 80, 255, 256, 999, 1000, 999999, 1000000, 2147483640,
        Integer.MAX_VALUE - 1, Integer.MAX_VALUE};
    private static final String[] TEXTS = {"", "na;ja;o0;", "nz;jz;r0;", "nabcdefza;jabcdefza;l9;r9;b9;s9;",
        "nabcdef;ja;r9;", "na;jabcdefzz;s9;b9;"};
    private static final int[] COUNTS = {-100, -1, 0, 9, 41, 81, 500};

    public static void main(String[] args) throws IllegalAccessException {
        for (int draw = 0; draw < 60; draw++) {
            for (String text : TEXTS) {
                Random random = new Random(draw);
                allCalls(text, standing(text, random), random);
                KitchenWheels broken = standing(text, random);
                Dues.lay(broken, 3, new int[12]);
                broken.image(0);
                int breaks = breakCounts(broken, 0, random);
                D.due(0, "counts that are wrong: " + breaks, breaks > 50 ? 1 : 0, 1);
                allCalls("broken " + text, broken, random);
            }
        }
        D.end("SafetyTest");
    }

    private static KitchenWheels standing(String text, Random random) {
        KitchenWheels x = text.isEmpty() ? new KitchenWheels() : Dues.told(text);
        int late = random.nextInt(42);
        for (int i = 0; i < late; i++) {
            x.weeks(24);
        }
        if (random.nextBoolean()) {
            Dues.lay(x, random.nextInt(8), new int[random.nextInt(41)]);
        }
        return x;
    }

    /** Every number in the fields of an object and of its parts becomes a wrong one, three of four times. */
    private static int breakCounts(Object whole, int depth, Random random) throws IllegalAccessException {
        int breaks = 0;
        for (Field field : whole.getClass().getDeclaredFields()) {
            field.setAccessible(true);
            if (Modifier.isStatic(field.getModifiers()) || depth > 4) {
                continue;
            }
            Object part = field.get(whole);
            if (part instanceof Integer && !Modifier.isFinal(field.getModifiers())) {
                breaks++;
                field.setInt(whole, wrong(field.getInt(whole), random));
            } else if (part instanceof int[] numbers) {
                for (int i = 0; i < numbers.length; i++) {
                    breaks++;
                    numbers[i] = wrong(numbers[i], random);
                }
            } else if (part instanceof Object[] parts) {
                for (Object one : parts) {
                    breaks += one == null || one.getClass().isArray() ? 0 : breakCounts(one, depth + 1, random);
                }
            } else if (part != null && part.getClass().getName().startsWith("KitchenWheels")) {
                breaks += breakCounts(part, depth + 1, random);
            }
        }
        return breaks;
    }

    private static int wrong(int number, Random random) {
        return random.nextInt(4) == 0 ? number : COUNTS[random.nextInt(COUNTS.length)];
    }

    private static void allCalls(String text, KitchenWheels x, Random random) throws IllegalAccessException {
        for (Method method : KitchenWheels.class.getDeclaredMethods()) {
            for (int i = 0; i < 20 && Modifier.isPublic(method.getModifiers()); i++) {
                Object[] numbers = new Object[method.getParameterCount()];
                StringBuilder call = new StringBuilder(text).append(' ').append(method.getName());
                for (int j = 0; j < numbers.length; j++) {
                    // half of them small, so that calls of many numbers are not all refused
                    numbers[j] = random.nextBoolean() ? random.nextInt(6) : NUMBERS[random.nextInt(NUMBERS.length)];
                    call.append(' ').append(numbers[j]);
                }
                D.due(0, call.toString(), ends(method, x, numbers), 1);
            }
        }
    }

    private static int ends(Method method, KitchenWheels x, Object[] numbers) throws IllegalAccessException {
        try {
            method.invoke(x, numbers);
            return 1;
        } catch (InvocationTargetException e) {
            return 0;
        }
    }
}
