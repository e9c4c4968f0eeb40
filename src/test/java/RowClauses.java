/** Part 1's ROWS and promises 2 to 5 and 40. */
final class RowClauses {
    private static final int MIN = Integer.MIN_VALUE, MAX = Integer.MAX_VALUE;

    static void test(Clauses c) {
        rows(c);
        row(c);
        set(c);
        copy(c);
        drop(c);
        status(c);
    }

    /** Whether an item (0 to 7) is that: TURNED behind a week of a step by as much is. */
    private static int is(KitchenWheels x, int row, int i, int value) {
        Dues.tell(x, "na;jabcdefzz;s" + value + ";");
        return (x.who(0, row, i, 1) & 4) / 4;
    }

    private static void rows(Clauses c) {
        c.term("ROWS 0 .. 7 are missing (at first)");
        KitchenWheels x = new KitchenWheels();
        c.due("count(0)", x.count(0), 0);
        c.same("drop(row)", row -> x.drop(row), Dues.NULL, 0, 1, 2, 3, 4, 5, 6, 7);
        c.same("drop(row)", row -> x.drop(row), Dues.BAD, -1, 8);
        c.same("row(row, 0, 3)", row -> x.row(row, 0, 3), 3, 0, 7);
        c.due("count(0)", x.count(0), 2);

        c.term(", or have a LANE (0 bytes, 1 shorts, 2 ints)");
        KitchenWheels y = new KitchenWheels();
        c.same("row(lane, lane, 1)", lane -> y.row(lane, lane, 1), 1, 0, 1, 2);
        c.due("the greatest byte", y.set(0, 0, 127), 127);
        c.due("no byte", y.set(0, 0, 128), -128);
        c.due("the greatest short", y.set(1, 0, 32767), 32767);
        c.due("no short", y.set(1, 0, 32768), -32768);
        c.due("the greatest int", y.set(2, 0, MAX), MAX);
        c.due("the least int", y.set(2, 0, MIN), MIN);

        c.term("and 0 to 40 ITEMS");
        c.due("row(3, 0, 0)", y.row(3, 0, 0), 0);
        c.due("set(3, 0, 1)", y.set(3, 0, 1), Dues.PLACE);
        c.due("row(3, 0, 40)", y.row(3, 0, 40), 40);
        c.due("set(3, 39, 1)", y.set(3, 39, 1), 1);
        c.due("set(3, 40, 1)", y.set(3, 40, 1), Dues.PLACE);

        c.term(", 0 at first.");
        KitchenWheels z = Dues.told("na;ja;s1;");
        for (int lane = 0; lane < 3; lane++) {
            z.row(lane, lane, 40);
            // TURNED stays 0 with one job
            c.due("items 0 to 11", z.who(0, lane, 0, 12), 62);
            c.due("items 12 to 23", z.who(0, lane, 12, 12), 62);
            c.due("items 24 to 35", z.who(0, lane, 24, 12), 62);
            c.due("items 28 to 39", z.who(0, lane, 28, 12), 62);
        }
    }

    private static void row(Clauses c) {
        c.of(2, "A ROW of a LANE with n ITEMS,");
        KitchenWheels x = new KitchenWheels();
        c.due("the last ROW, the most ITEMS", x.row(7, 2, 40), 40);
        c.due("its last ITEM", x.set(7, 39, 70000), 70000);
        c.due("the first ROW, no ITEMS", x.row(0, 0, 0), 0);
        c.due("it is there", x.count(0), 2);

        c.of(2, "in place of what is there: n.");
        Dues.lay(x, 1, 3, 3, 3);
        c.due("row(1, 0, 2)", x.row(1, 0, 2), 2);
        c.due("two ITEMS", x.set(1, 2, 3), Dues.PLACE);
        c.due("ITEM 0 is 0", is(x, 1, 0, 0), 1);
        c.due("ITEM 1 is 0", is(x, 1, 1, 0), 1);
        c.due("bytes", x.set(1, 1, 70000), 112);
        c.due("one ROW yet", x.count(0), 3);
        x.set(1, 0, 3);
        c.due("as many again", x.row(1, 0, 2), 2);
        c.due("ITEM 0 is 0", is(x, 1, 0, 0), 1);

        c.of(2, "BAD: ROW,");
        c.bad("row(?, 0, 1)", row -> x.row(row, 0, 1), 0, 7);
        c.of(2, "LANE,");
        c.bad("row(0, ?, 1)", lane -> x.row(0, lane, 1), 0, 2);
        c.of(2, "n above 40;");
        c.same("row(0, 0, ?)", n -> x.row(0, 0, n), Dues.BAD, 41, 42, MAX);
        c.due("row(0, 0, 40)", x.row(0, 0, 40), 40);
        c.of(2, "SIZE.");
        c.same("row(0, 0, ?)", n -> x.row(0, 0, n), Dues.SIZE, -1, -2, MIN);
        c.due("row(0, 0, 0)", x.row(0, 0, 0), 0);
    }

    private static void set(Clauses c) {
        c.of(3, "ITEM i becomes v, its lowest bits, as many as the LANE has:");
        KitchenWheels x = new KitchenWheels();
        for (int lane = 0; lane < 3; lane++) {
            x.row(lane, lane, 3);
        }
        int[] values = {0, 127, 128, 255, 256, 257, -1, -128, -129, MAX, MIN};
        int[] bytes = {0, 127, -128, -1, 0, 1, -1, -128, 127, -1, 0};
        for (int i = 0; i < values.length; i++) {
            c.due("a byte of " + values[i], x.set(0, 0, values[i]), bytes[i]);
        }
        int[] greater = {32767, 32768, 65535, 65536, 65537, -1, -32768, -32769, MAX, MIN};
        int[] shorts = {32767, -32768, -1, 0, 1, -1, -32768, 32767, -1, 0};
        for (int i = 0; i < greater.length; i++) {
            c.due("a short of " + greater[i], x.set(1, 0, greater[i]), shorts[i]);
        }
        c.same("an int", v -> x.set(2, 0, v) - (long) v, 0, 0, 65536, -1, MAX, MIN);

        c.of(3, "what it is then.");
        c.due("a byte of 258", x.set(0, 2, 258), 2);
        c.due("is kept as 2", is(x, 0, 2, 2), 1);
        c.due("a short of 65539", x.set(1, 2, 65539), 3);
        c.due("is kept as 3", is(x, 1, 2, 3), 1);
        c.due("an int of 258", x.set(2, 2, 258), 258);
        c.due("is not kept as 2", is(x, 2, 2, 2), 0);
        c.due("the ITEM ahead stays", is(x, 0, 1, 0), 1);

        c.of(3, "BAD: ROW;");
        c.bad("set(?, 0, 0)", row -> x.set(row, 0, 0), 0, 7);
        c.of(3, "NULL;");
        c.same("set(?, 0, 0)", row -> x.set(row, 0, 0), Dues.NULL, 3, 7);
        x.drop(2);
        c.due("dropped", x.set(2, 0, 0), Dues.NULL);
        c.of(3, "PLACE.");
        c.same("set(0, ?, 0)", i -> x.set(0, i, 0), Dues.PLACE, -1, 3, 40, MIN, MAX);
        c.same("set(0, ?, 0)", i -> x.set(0, i, 0), 0, 0, 2);
    }

    private static void copy(Clauses c) {
        c.of(4, "n ITEMS of a from i on come to b from j on,");
        KitchenWheels x = new KitchenWheels();
        Dues.lay(x, 0, 1, 2, 3, 4);
        Dues.lay(x, 1, 7, 7, 7);
        c.due("the last two to the first places", x.copy(0, 2, 1, 0, 2), 2);
        c.due("item 0", is(x, 1, 0, 3), 1);
        c.due("item 1", is(x, 1, 1, 4), 1);
        c.due("item 2 stays", is(x, 1, 2, 7), 1);
        c.due("a stays", is(x, 0, 2, 3), 1);
        c.due("the first to the last place", x.copy(0, 0, 1, 2, 1), 1);
        c.due("item 2", is(x, 1, 2, 1), 1);
        c.due("none, behind both ends", x.copy(0, 4, 1, 3, 0), 0);

        c.of(4, "as they were ahead: n.");
        Dues.lay(x, 2, 1, 2, 3, 4);
        c.due("one place on", x.copy(2, 0, 2, 1, 3), 3);
        for (int i = 0; i < 4; i++) {
            c.due("item " + i, is(x, 2, i, new int[] {1, 1, 2, 3}[i]), 1);
        }
        c.due("one place back", x.copy(2, 1, 2, 0, 3), 3);
        for (int i = 0; i < 4; i++) {
            c.due("item " + i, is(x, 2, i, new int[] {1, 2, 3, 3}[i]), 1);
        }
        c.due("all onto themselves", x.copy(2, 0, 2, 0, 4), 4);

        refusedCopies(c);
    }

    private static void refusedCopies(Clauses c) {
        KitchenWheels x = new KitchenWheels();
        x.row(0, 2, 4);
        x.row(1, 2, 3);
        x.row(2, 1, 4);
        c.of(4, "BAD: ROWS;");
        c.bad("copy(?, 0, 0, 0, 0)", a -> x.copy(a, 0, 0, 0, 0), 0, 7);
        c.bad("copy(0, 0, ?, 0, 0)", b -> x.copy(0, 0, b, 0, 0), 0, 7);
        c.of(4, "NULL;");
        c.due("a is missing", x.copy(7, 0, 0, 0, 0), Dues.NULL);
        c.due("b is missing", x.copy(0, 0, 7, 0, 0), Dues.NULL);
        c.due("one that is missing onto itself", x.copy(7, 0, 7, 0, 0), Dues.NULL);
        c.of(4, "STORE;");
        c.due("ints to shorts", x.copy(0, 0, 2, 0, 1), Dues.STORE);
        c.due("shorts to ints", x.copy(2, 0, 0, 0, 1), Dues.STORE);
        c.due("none of them", x.copy(2, 0, 0, 0, 0), Dues.STORE);
        c.due("ints to ints", x.copy(0, 0, 1, 0, 1), 1);
        c.of(4, "PLACE (i, j, n below 0,");
        c.same("copy(0, ?, 1, 0, 1)", i -> x.copy(0, i, 1, 0, 1), Dues.PLACE, -1, MIN);
        c.same("copy(0, 0, 1, ?, 1)", j -> x.copy(0, 0, 1, j, 1), Dues.PLACE, -1, MIN);
        c.same("copy(0, 0, 1, 0, ?)", n -> x.copy(0, 0, 1, 0, n), Dues.PLACE, -1, MIN);
        c.same("copy(0, ?, 1, 0, 0)", i -> x.copy(0, i, 1, 0, 0), Dues.PLACE, -1, MIN);
        c.same("copy(0, 4, 1, 3, ?)", n -> x.copy(0, 4, 1, 3, n), Dues.PLACE, -1, MIN);
        c.of(4, "or beyond an end).");
        c.due("up to both ends", x.copy(0, 1, 1, 0, 3), 3);
        c.due("beyond the end of a", x.copy(0, 2, 1, 0, 3), Dues.PLACE);
        c.due("beyond the end of b", x.copy(0, 1, 1, 1, 3), Dues.PLACE);
        c.due("none, behind the end of a", x.copy(0, 5, 1, 0, 0), Dues.PLACE);
        c.due("none, behind the end of b", x.copy(0, 0, 1, 4, 0), Dues.PLACE);
        c.same("copy(0, ?, 1, 0, 1)", i -> x.copy(0, i, 1, 0, 1), Dues.PLACE, 4, MAX);
        c.same("copy(0, 0, 1, ?, 1)", j -> x.copy(0, 0, 1, j, 1), Dues.PLACE, 3, MAX);
        c.same("copy(0, 1, 1, 1, ?)", n -> x.copy(0, 1, 1, 1, n), Dues.PLACE, 3, MAX);
        c.due("places whose sum wraps around", x.copy(0, MAX, 1, MAX, MAX), Dues.PLACE);
    }

    private static void drop(Clauses c) {
        c.of(5, "A ROW is missing from now on: how many ITEMS it had.");
        KitchenWheels x = new KitchenWheels();
        x.row(0, 0, 0);
        x.row(7, 2, 40);
        c.due("of none", x.drop(0), 0);
        c.due("of 40", x.drop(7), 40);
        c.due("no ROWS", x.count(0), 0);
        c.due("it is missing", x.set(7, 0, 0), Dues.NULL);
        c.due("it may come again", x.row(7, 0, 1), 1);
        c.of(5, "BAD;");
        c.bad("drop(?)", row -> x.drop(row), 0, 7);
        c.of(5, "NULL.");
        c.same("drop(?)", row -> x.drop(row), Dues.NULL, 0, 3, 7);
    }

    private static void status(Clauses c) {
        KitchenWheels x = new KitchenWheels();
        c.of(40, "or there was none.");
        c.due("at first", x.status(), 0);
        x.drop(8);
        c.due("a BAD call only", x.status(), 0);

        c.of(40, "Of the latest call with a ROW, or as(),");
        Dues.tell(x, "na;ja;o1;");
        x.row(0, 0, 2);
        x.row(1, 1, 1);
        x.set(2, 0, 0);
        c.due("set()", x.status(), 1);
        x.copy(0, 0, 1, 0, 1);
        c.due("copy()", x.status(), 5);
        x.drop(2);
        c.due("drop()", x.status(), 1);
        x.row(0, 0, -1);
        c.due("row()", x.status(), 4);
        x.seen(0, 0, 2, 1);
        c.due("seen()", x.status(), 2);
        x.who(0, 2, 0, 1);
        c.due("who()", x.status(), 1);
        x.as(0, 2);
        c.due("as()", x.status(), 3);
        x.kind(0);
        x.ask(0, 0);
        x.turner(0, 0);
        x.weeks(1);
        x.undo();
        x.image(0);
        x.restore(0);
        x.count(0);
        x.feed(0);
        x.kitchen();
        c.due("no other call", x.status(), 3);

        c.of(40, "that was not BAD, STATE, FULL:");
        x.row(0, 3, 1);
        x.set(8, 0, 0);
        x.copy(0, 0, 8, 0, 0);
        x.drop(-1);
        x.seen(0, 0, 0, 13);
        x.who(1, 0, 0, 1);
        x.as(0, 6);
        x.as(1, 0);
        c.due("BAD calls tell nothing", x.status(), 3);
        KitchenWheels none = new KitchenWheels();
        none.set(0, 0, 0);
        none.seen(0, 0, 0, 1);
        c.due("a STATE call tells nothing", none.status(), 1);

        c.of(40, "the number of its FINDING;");
        x.drop(7);
        c.due("NULL", x.status(), 1);
        x.set(0, 2, 0);
        c.due("PLACE", x.status(), 2);
        x.as(0, 5);
        c.due("KIND", x.status(), 3);
        x.row(7, 0, -1);
        c.due("SIZE", x.status(), 4);
        x.copy(1, 0, 0, 0, 0);
        c.due("STORE", x.status(), 5);

        statusOfNone(c, x);
    }

    private static void statusOfNone(Clauses c, KitchenWheels x) {
        c.of(40, "0: it had none,");
        x.row(0, 0, 2);
        c.due("row()", x.status(), 0);
        x.drop(7);
        x.set(0, 0, 0);
        c.due("set()", x.status(), 0);
        x.drop(7);
        x.copy(0, 0, 0, 0, 1);
        c.due("copy()", x.status(), 0);
        x.drop(7);
        x.seen(0, 0, 0, 1);
        c.due("seen()", x.status(), 0);
        x.drop(7);
        x.who(0, 0, 0, 1);
        c.due("who()", x.status(), 0);
        x.drop(7);
        x.as(0, 0);
        c.due("as()", x.status(), 0);
        x.drop(7);
        x.drop(0);
        c.due("drop()", x.status(), 0);
    }
}
