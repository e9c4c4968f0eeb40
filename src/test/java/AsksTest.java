/** Promises 35 to 38: what turners are, and what they answer. */
public final class AsksTest {
    private static final Dues D = new Dues();

    public static void main(String[] args) {
        kindsAreTold();
        turnersAreTakenAs();
        turnersAreAsked();
        asksAreRefused();
        traceStays();
        D.end("AsksTest");
    }

    private static void kindsAreTold() {
        KitchenWheels x = new KitchenWheels();
        D.due(35, "no kitchen", x.kind(0), Dues.BAD);
        String sorts = "osblr";
        for (int i = 0; i < 5; i++) {
            Dues.tell(x, "na;ja;o1;" + sorts.charAt(i) + "1;");
            D.due(35, "kind of " + sorts.charAt(i), x.kind(1), i + 1);
        }
        for (int wrong : new int[] {-1, 2, 4, Integer.MAX_VALUE, Integer.MIN_VALUE}) {
            D.due(35, "kind(" + wrong + ")", x.kind(wrong), Dues.BAD);
        }
    }

    private static void turnersAreTakenAs() {
        KitchenWheels x = new KitchenWheels();
        D.due(36, "no kitchen", x.as(0, 0), Dues.BAD);
        String[] told = {"o1;o2;", "o1;s2;", "o1;b2;", "o1;l2;", "o1;r2;"};
        String[] kinds = {"110000", "111000", "110100", "100010", "100011"};
        for (int i = 0; i < 5; i++) {
            Dues.tell(x, "na;ja;" + told[i]);
            for (int kind = 0; kind < 6; kind++) {
                boolean is = kinds[i].charAt(kind) == '1';
                D.due(36, told[i] + " as " + kind, x.as(1, kind), is ? 1 : Dues.KIND);
                D.due(40, "status()", x.status(), is ? 0 : 3);
            }
        }
        for (int wrong : new int[] {-1, 6, Integer.MAX_VALUE, Integer.MIN_VALUE}) {
            D.due(36, "no kind", x.as(0, wrong), Dues.BAD);
        }
        for (int wrong : new int[] {-1, 2, 4, Integer.MAX_VALUE, Integer.MIN_VALUE}) {
            D.due(36, "no turner", x.as(wrong, 0), Dues.BAD);
        }
    }

    private static void asked(KitchenWheels x, int one, int what, int want, int... trace) {
        D.due(37, "ask(" + one + ", " + what + ")", x.ask(one, what), want);
        for (int i = 0; i < trace.length; i++) {
            D.due(38, "trace(" + i + ")", x.trace(i), trace[i]);
        }
        D.due(38, "trace behind the last", x.trace(trace.length), Dues.NONE);
    }

    private static void turnersAreAsked() {
        KitchenWheels x = Dues.told("na;jabcdefzz;o3;s2;b1;l4;");
        x.turn(5);
        asked(x, 0, 0, 8, 11, 10, 21, 20);
        asked(x, 0, 1, 5, 21, 20);
        asked(x, 1, 0, -14, 12, 11, 10, 24, 21, 20);
        asked(x, 1, 1, 12, 24, 21, 20);
        asked(x, 2, 0, -992, 11, 10, 22, 21, 20);
        asked(x, 2, 1, -993, 22, 21, 20);
        asked(x, 3, 0, -96, 13, 10);
        asked(x, 3, 1, 99, 23, 20, 13, 10);
        Dues.tell(x, "na;ja;o1;r4;");
        asked(x, 1, 0, -192, 14, 13, 10);
        asked(x, 1, 1, 193, 23, 20, 14, 13, 10);
    }

    private static void asksAreRefused() {
        KitchenWheels x = new KitchenWheels();
        D.due(37, "no kitchen", x.ask(0, 0), Dues.BAD);
        Dues.tell(x, "na;ja;o1;");
        for (int wrong : new int[] {-1, 1, 4, Integer.MAX_VALUE, Integer.MIN_VALUE}) {
            D.due(37, "no turner", x.ask(wrong, 0), Dues.BAD);
        }
        for (int wrong : new int[] {-1, 2, Integer.MAX_VALUE, Integer.MIN_VALUE}) {
            D.due(37, "no ask", x.ask(0, wrong), Dues.BAD);
        }
    }

    private static void traceStays() {
        KitchenWheels x = Dues.told("na;ja;o1;");
        D.due(38, "nothing yet", x.trace(0), Dues.NONE);
        x.ask(0, 1);
        x.ask(0, 2);
        x.ask(1, 0);
        x.weeks(1);
        Dues.tell(x, "na;ja;r1;");
        D.due(38, "of the latest ask", x.trace(0), 21);
        D.due(38, "of the latest ask", x.trace(1), 20);
        for (int wrong : new int[] {2, 15, 16, 17, -1, Integer.MAX_VALUE, Integer.MIN_VALUE}) {
            D.due(38, "trace(" + wrong + ")", x.trace(wrong), Dues.NONE);
        }
    }
}
