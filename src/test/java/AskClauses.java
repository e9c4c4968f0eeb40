/** Part 3's KINDS, part 4 and promises 35 to 38: what turners are, and what they answer. */
final class AskClauses {
    /** A one, a step, a both and a law, numbers 0 to 3, by 3, 2, 1 and 4; TURNED is 5. */
    private static final KitchenWheels X = turnedFive("o3;s2;b1;l4;");
    /** One who puts right, number 1, by 4. */
    private static final KitchenWheels R = turnedFive("o3;r4;");

    static void test(Clauses c) {
        kinds(c);
        sizes(c);
        marks(c);
        anew(c);
        kind(c);
        as(c);
        ask(c);
        trace(c);
    }

    private static KitchenWheels turnedFive(String turners) {
        KitchenWheels x = Dues.told("na;jabcdefzz;" + turners);
        x.turn(5);
        return x;
    }

    private static void asked(Clauses c, KitchenWheels x, int one, int what, int want, int... trace) {
        c.due("ask(" + one + ", " + what + ")", x.ask(one, what), want);
        for (int i = 0; i < trace.length; i++) {
            c.due("trace(" + i + ")", x.trace(i), trace[i]);
        }
        c.due("trace behind the last", x.trace(trace.length), Dues.NONE);
    }

    private static void is(Clauses c, String sort, int own, String kinds) {
        KitchenWheels x = Dues.told("na;ja;o1;" + sort + "1;");
        c.due("kind of " + sort, x.kind(1), own);
        for (int kind = 0; kind < 6; kind++) {
            boolean such = kinds.indexOf('0' + kind) >= 0;
            c.due(sort + " as " + kind, x.as(1, kind), such ? 1 : Dues.KIND);
        }
    }

    private static void kinds(Clauses c) {
        c.term("KINDS of TURNERS: 0 TURNER;");
        c.due("all are", X.as(0, 0) + X.as(1, 0) + X.as(2, 0) + X.as(3, 0) + R.as(1, 0), 7);
        c.term("1 ONE, a TURNER;");
        is(c, "o", 1, "01");
        c.term("2 STEP, a ONE;");
        is(c, "s", 2, "012");
        c.term("3 BOTH, a ONE;");
        is(c, "b", 3, "013");
        c.term("4 LAW, a TURNER;");
        is(c, "l", 4, "04");
        c.term("5 RIGHT, a LAW.");
        is(c, "r", 5, "045");
        c.term("By this it is asked.");
        asked(c, X, 2, 0, 1 + (2 + 5 - 1000), 11, 10, 22, 21, 20);
        c.term("ASKS of TURNERS, by BODIES, each of which leaves its number in THE TRACE as it begins");
        asked(c, X, 1, 1, 2 * (1 + 5), 24, 21, 20);
        c.term("(the first 16):");
        // six are the most that any ask leaves
        asked(c, X, 1, 0, -(2 + 2 * (1 + 5)), 12, 11, 10, 24, 21, 20);
        c.same("trace(?)", i -> X.trace(i), Dues.NONE, 6, 15, 16);
    }

    private static void sizes(Clauses c) {
        c.term("0 SIZE: 10 lent to all TURNERS: BY.");
        asked(c, turnedFive("l0;"), 0, 0, -100, 13, 10);
        asked(c, turnedFive("l9;"), 0, 0, -91, 13, 10);
        c.term("11 of ONES: what 10 gives, and MARK.");
        asked(c, X, 0, 0, 3 + 5, 11, 10, 21, 20);
        c.term("12 of STEPS: 0 less what 11 gives.");
        asked(c, X, 1, 0, -(2 + 12), 12, 11, 10, 24, 21, 20);
        c.term("13 of LAWS: what 10 gives, less 100.");
        asked(c, X, 3, 0, 4 - 100, 13, 10);
        c.term("14 of RIGHTS: what 13 gives, twice.");
        asked(c, R, 1, 0, 2 * (4 - 100), 14, 13, 10);
    }

    private static void marks(Clauses c) {
        c.term("1 MARK: 20 lent to all TURNERS: the number.");
        asked(c, turnedFive("o1;o1;o1;l0;"), 3, 1, 3 + 100, 23, 20, 13, 10);
        c.term("21 of ONES: what 20 gives, and TURNED.");
        asked(c, X, 0, 1, 5, 21, 20);
        KitchenWheels around = turnedFive("o1;o1;");
        asked(c, around, 1, 1, 6, 21, 20);
        around.turn(3);
        asked(c, around, 1, 1, 1, 21, 20);
        around.turn(7);
        asked(c, around, 0, 1, 7, 21, 20);
        c.term("22 of BOTHS: what 21 gives, less 1000.");
        asked(c, X, 2, 1, 7 - 1000, 22, 21, 20);
        c.term("23 of LAWS: what 20 gives, less SIZE.");
        asked(c, X, 3, 1, 3 - (4 - 100), 23, 20, 13, 10);
        c.term("24 of STEPS: what 21 gives, twice.");
        asked(c, X, 1, 1, 12, 24, 21, 20);
    }

    private static void anew(Clauses c) {
        c.term("(Of an ask the BODY told for the KIND begins,");
        asked(c, R, 1, 0, -192, 14, 13, 10);
        c.term("else that of the nearest KIND that it is, too,");
        asked(c, X, 2, 0, -992, 11, 10, 22, 21, 20);
        asked(c, R, 1, 1, 1 + 192, 23, 20, 14, 13, 10);
        c.term("else the one that is lent;");
        asked(c, X, 3, 0, -96, 13, 10);
        c.term("SIZE, MARK within others are asked of the same TURNER anew.)");
        // 11 asks a both's MARK of the both, 23 the SIZE of one who puts right of him
        asked(c, X, 2, 0, 1 + (2 + 5 - 1000), 11, 10, 22, 21, 20);
        asked(c, R, 1, 1, 1 - 2 * (4 - 100), 23, 20, 14, 13, 10);
    }

    private static void kind(Clauses c) {
        c.of(35, "The KIND of a TURNER, as told (1 to 5).");
        for (int one = 0; one < 4; one++) {
            c.due("kind(" + one + ")", X.kind(one), one + 1);
        }
        c.due("kind(1)", R.kind(1), 5);
        c.of(35, "BAD.");
        c.bad("kind(?)", one -> X.kind(one), 0, 3);
        c.bad("kind(?)", one -> R.kind(one), 0, 1);
        c.due("no KITCHEN", new KitchenWheels().kind(0), Dues.BAD);
    }

    private static void as(Clauses c) {
        c.of(36, "A TURNER is taken as one of a KIND (0 .. 5): its number.");
        c.due("as(0, 0)", X.as(0, 0), 0);
        c.due("as(3, 4)", X.as(3, 4), 3);
        c.due("as(1, 5)", R.as(1, 5), 1);
        c.of(36, "BAD;");
        c.bad("as(?, 0)", one -> X.as(one, 0), 0, 3);
        c.bad("as(0, ?)", kind -> X.as(0, kind), 0, 5);
        c.due("no KITCHEN", new KitchenWheels().as(0, 0), Dues.BAD);
        c.of(36, "KIND: it is no such one.");
        c.same("as(0, ?)", kind -> X.as(0, kind), Dues.KIND, 2, 3, 4, 5);
        c.same("as(3, ?)", kind -> X.as(3, kind), Dues.KIND, 1, 2, 3, 5);
        c.same("as(1, ?)", kind -> R.as(1, kind), Dues.KIND, 1, 2, 3);
    }

    private static void ask(Clauses c) {
        c.of(37, "An ASK (0, 1) of a TURNER.");
        c.due("ask(0, 0)", X.ask(0, 0), 8);
        c.due("ask(0, 1)", X.ask(0, 1), 5);
        c.of(37, "BAD.");
        c.bad("ask(?, 0)", one -> X.ask(one, 0), 0, 3);
        c.bad("ask(0, ?)", what -> X.ask(0, what), 0, 1);
        c.due("no KITCHEN", new KitchenWheels().ask(0, 0), Dues.BAD);
        c.of(37, "THE TRACE is empty ahead of it.");
        X.ask(1, 0);
        X.ask(0, 1);
        c.due("trace(1)", X.trace(1), 20);
        c.same("trace(?)", i -> X.trace(i), Dues.NONE, 2, 5);
    }

    private static void trace(Clauses c) {
        c.of(38, "Number i of THE TRACE;");
        X.ask(1, 0);
        int[] numbers = {12, 11, 10, 24, 21, 20};
        for (int i = 0; i < 6; i++) {
            c.due("trace(" + i + ")", X.trace(i), numbers[i]);
        }
        X.ask(4, 0);
        X.ask(0, 2);
        c.due("a refused ask leaves it", X.trace(0), 12);
        c.of(38, "NONE.");
        c.same("trace(?)", i -> X.trace(i), Dues.NONE, -1, 6, 15, 16, 17, Integer.MIN_VALUE, Integer.MAX_VALUE);
        KitchenWheels none = new KitchenWheels();
        c.same("nothing was asked", i -> none.trace(i), Dues.NONE, -1, 0, 1);
    }
}
