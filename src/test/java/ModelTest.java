import java.lang.reflect.Method;
import java.util.Arrays;
import java.util.Random;

/** All promises: long runs of drawn calls, each answer held against the Model's. */
public final class ModelTest {
    private static final int RUNS = 900, CALLS = 512;
    private static final String[] CALLED = {"row", "set", "copy", "drop", "feed", "kitchen", "fault", "undo", "weeks",
        "leave", "name", "job", "turn", "done", "slot", "turner", "hasJobs", "whoDoes", "often", "meets", "allMet",
        "round", "fairest", "owed", "right", "twice", "seen", "who", "pairs", "forgets", "drawn", "image", "restore",
        "kind", "as", "ask", "trace", "count", "status"};
    /** How many of a call's numbers there are, and the greatest of each that is fine. */
    private static final int[][] MOST = {{7, 2, 40}, {7, 39, 300}, {7, 20, 7, 20, 20}, {7}, {255}, {}, {}, {}, {24},
        {5}, {7, 6}, {7, 6}, {8}, {5, 5}, {7, 2}, {3, 1}, {5, 60}, {5, 60}, {5, 5, 60}, {5, 5}, {},
        {}, {60, 1}, {5}, {5, 5, 60, 1}, {}, {5, 7, 20, 12}, {3, 7, 20, 12}, {60}, {5, 5, 8, 10, 1}, {60, 999999, 1},
        {1}, {1}, {3}, {3, 5}, {3, 1}, {7}, {7}, {}};

    private static final Method[] OF_CLASS = new Method[CALLED.length];
    private static final Method[] OF_MODEL = new Method[CALLED.length];
    private static final Dues D = new Dues();
    private final Random random;
    private final KitchenWheels wheels = new KitchenWheels();
    private final Model model = new Model();
    private int calls;

    private ModelTest(long seed) {
        random = new Random(seed);
    }

    public static void main(String[] args) {
        for (int call = 0; call < CALLED.length; call++) {
            OF_CLASS[call] = methodOf(KitchenWheels.class, call);
            OF_MODEL[call] = methodOf(Model.class, call);
        }
        for (int run = 0; run < RUNS; run++) {
            new ModelTest(run).run(run);
        }
        D.end("ModelTest");
    }

    private void run(int run) {
        if (run % 10 != 0) {
            tell(run);
        }
        while (calls < CALLS) {
            int draw = random.nextInt(100);
            if (draw < 2 && calls < CALLS - 90) {
                tell(run);
            } else if (draw < 8) {
                sight(run);
            } else {
                int call = random.nextInt(CALLED.length);
                // unread bytes would spoil nearly every text
                if (call != 4 || run % 7 == 0) {
                    held(run, call, drawnNumbers(MOST[call]));
                }
            }
        }
    }

    private int[] drawnNumbers(int[] most) {
        int[] numbers = new int[5];
        for (int i = 0; i < most.length; i++) {
            int draw = random.nextInt(60);
            numbers[i] = draw == 0 ? -1 : draw == 1 ? most[i] + 1
                : draw == 2 ? Dues.EXTREMES[random.nextInt(Dues.EXTREMES.length)]
                : draw == 3 ? most[i] : draw == 4 ? 0 : random.nextInt(most[i] + 1);
        }
        return numbers;
    }

    private String letters() {
        StringBuilder letters = new StringBuilder();
        int slots = 1 + random.nextInt(8);
        String from = random.nextInt(3) == 0 ? "abz" : "abcdefz";
        for (int i = 0; i < slots; i++) {
            letters.append(from.charAt(random.nextInt(from.length())));
        }
        return letters.toString();
    }

    private void tell(int run) {
        StringBuilder text = new StringBuilder("n" + letters() + ";j" + letters() + ";");
        int turners = 1 + random.nextInt(4) + random.nextInt(20) / 19;
        for (int i = 0; i < turners; i++) {
            text.append("osblr".charAt(random.nextInt(5))).append(random.nextInt(10)).append(';');
        }
        if (random.nextInt(3) == 0) {
            char other = "nj;,oz019abg \u00e9".charAt(random.nextInt(14));
            int at = random.nextInt(text.length());
            switch (random.nextInt(4)) {
                case 0 -> text.setCharAt(at, other);
                case 1 -> text.insert(at, other);
                case 2 -> text.deleteCharAt(at);
                default -> text.setLength(at);
            }
        }
        for (int i = 0; i < text.length(); i++) {
            held(run, 4, new int[] {text.charAt(i), 0, 0, 0, 0});
        }
        held(run, 5, new int[5]);
        held(run, 6, new int[5]);
    }

    /** A row that is likely to fit for seen() and who(). */
    private void sight(int run) {
        int weeks = 1 + random.nextInt(4);
        int from = random.nextInt(3);
        int row = random.nextInt(8);
        int job = random.nextInt(6);
        int turner = random.nextInt(4);
        boolean people = random.nextBoolean();
        held(run, 0, new int[] {row, random.nextInt(3), from + weeks, 0, 0});
        for (int i = 0; i < weeks; i++) {
            int answer = people ? model.whoDoes(job, i) : model.drawn(i + 1, 1, 1);
            int item = people ? (answer <= 0 ? -1 : Integer.numberOfTrailingZeros(answer)) : answer;
            held(run, 1, new int[] {row, from + i, item, 0, 0});
        }
        held(run, people ? 26 : 27, new int[] {people ? job : turner, row, from, weeks, 0});
    }

    private void held(int run, int call, int[] n) {
        calls++;
        long got = answer(OF_CLASS[call], wheels, n);
        long want = answer(OF_MODEL[call], model, n);
        if (got == want && random.nextInt(4) == 0) {
            got = wheels.status();
            want = model.status();
            calls++;
        }
        StringBuilder text = new StringBuilder("run ").append(run).append(", ").append(CALLED[call]).append('(');
        for (int i = 0; i < MOST[call].length && got != want; i++) {
            text.append(i == 0 ? "" : ", ").append(n[i]);
        }
        D.due(0, text.append(')').toString(), got, want);
    }

    private static Method methodOf(Class<?> face, int call) {
        Class<?>[] numbers = new Class<?>[MOST[call].length];
        Arrays.fill(numbers, int.class);
        try {
            return face.getDeclaredMethod(CALLED[call], numbers);
        } catch (NoSuchMethodException e) {
            throw new IllegalStateException(e);
        }
    }

    private static long answer(Method method, Object of, int[] numbers) {
        Object[] told = new Object[method.getParameterCount()];
        for (int i = 0; i < told.length; i++) {
            told[i] = numbers[i];
        }
        try {
            return ((Number) method.invoke(of, told)).longValue();
        } catch (ReflectiveOperationException e) {
            throw new IllegalStateException(method + " with " + Arrays.toString(told), e);
        }
    }
}
