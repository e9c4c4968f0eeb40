/** What the tests share: answers that are due, and kitchens that are told. */
final class Dues {
    static final int NONE = -1000000, BAD = -1000001, STATE = -1000002, FULL = -1000003;
    static final int NULL = -1000011, PLACE = -1000012, KIND = -1000013, SIZE = -1000014, STORE = -1000015;
    static final int[] EXTREMES = {Integer.MIN_VALUE, Integer.MIN_VALUE + 1, -1000, -1, 1000, Integer.MAX_VALUE};

    private int checked;
    private int wrong;

    void due(int promise, String call, long got, long want) {
        checked++;
        if (got != want) {
            wrong++;
            System.out.println("promise " + promise + ": " + call + " answered " + got + ", due is " + want);
        }
    }

    /** The end of a test's main method. */
    void end(String test) {
        System.out.println(test + ": " + checked + " answers, " + wrong + " not as due");
        if (wrong != 0 || checked == 0) {
            System.exit(1);
        }
    }

    static int tell(KitchenWheels wheels, String text) {
        for (int i = 0; i < text.length(); i++) {
            wheels.feed(text.charAt(i));
        }
        return wheels.kitchen();
    }

    static KitchenWheels told(String text) {
        KitchenWheels wheels = new KitchenWheels();
        int answer = tell(wheels, text);
        if (answer < 1) {
            throw new IllegalStateException(text + " is no kitchen: " + answer);
        }
        return wheels;
    }

    static void lay(KitchenWheels wheels, int row, int... items) {
        wheels.row(row, 2, items.length);
        for (int i = 0; i < items.length; i++) {
            wheels.set(row, i, items[i]);
        }
    }
}
