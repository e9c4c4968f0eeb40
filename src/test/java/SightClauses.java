/** Part 3 and promises 28 and 29: what was turned, and by whom, as weeks that were seen tell. */
final class SightClauses {
    private static final int MIN = Integer.MIN_VALUE, MAX = Integer.MAX_VALUE;

    static void test(Clauses c) {
        seen(c);
        refusedSeen(c);
        who(c);
        refusedWho(c);
    }

    private static void seenAs(Clauses c, KitchenWheels x, int job, int want, int... people) {
        Dues.lay(x, 0, people);
        c.due("job " + job + " in " + people.length, x.seen(job, 0, 0, people.length), want);
    }

    private static void seen(Clauses c) {
        c.term("SEEN: a row tells who (0 to 5; -1: nobody) does a told job");
        KitchenWheels x = Dues.told("naf;jaz;s0;");
        seenAs(c, x, 0, 1, 0);
        seenAs(c, x, 0, 2, 5);
        seenAs(c, x, 0, 0, -1);
        seenAs(c, x, 5, 3, -1);
        seenAs(c, x, 0, 0, 6);
        seenAs(c, x, 5, 0, -2);
        x.row(1, 0, 1);
        x.set(1, 0, 255);
        c.due("255 as a byte is -1", x.seen(5, 1, 0, 1), 3);
        c.term("in each of n WEEKS (1 to 12) from this one on");
        KitchenWheels y = Dues.told("nabc;jazz;o1;");
        seenAs(c, y, 0, 1, 0);
        seenAs(c, y, 0, 1, 0, 2, 1, 0, 2, 1, 0, 2, 1, 0, 2, 1);
        seenAs(c, y, 0, 0, 0, 2, 1, 0, 2, 1, 0, 2, 1, 0, 2, 0);
        seenAs(c, y, 0, 0, 1, 2, 1, 0, 2, 1, 0, 2, 1, 0, 2, 1);
        c.term("(of several the least):");
        KitchenWheels several = Dues.told("ncab;jaaa;s0;");
        seenAs(c, several, 0, 7, 0);
        seenAs(c, several, 0, 0, 2);
        seenAs(c, several, 0, 0, 1);
        c.term("TURNED (0 to 7, bits) by which it is so,");
        KitchenWheels eight = Dues.told("nbczzzzzz;jazzzzzzz;s0;");
        seenAs(c, eight, 0, 1, 1);
        seenAs(c, eight, 0, 128, 2);
        seenAs(c, eight, 0, 126, -1);
        seenAs(c, eight, 5, 255, -1);
        seenAs(c, Dues.told("na;ja;o1;"), 0, 1, 0, 0);
        c.term("all else as it is.");
        KitchenWheels away = Dues.told("nab;jaz;s0;");
        away.leave(0);
        seenAs(c, away, 0, 3, 1);
        seenAs(c, away, 0, 1, 1, 0);
        seenAs(c, away, 0, 2, 1, 1);
        KitchenWheels law = Dues.told("nabc;jazz;l1;s0;");
        law.weeks(2);
        // the law turns by 3 in WEEK 2, which is all around, then nobody does
        seenAs(c, law, 0, 2, 2, 2, 2);
        // from WEEK 1 on two WEEKS pass without a turn, then the first turner's comes
        KitchenWheels third = Dues.told("nabc;jazz;s1;s0;s0;");
        third.weeks(1);
        seenAs(c, third, 0, 1, 0, 0, 0, 2, 2, 2, 1);
        c.of(28, "SEEN, n ITEMS of a ROW from i on.");
        Dues.lay(y, 2, 9, 9, 2, 1, 0);
        c.due("the last three", y.seen(0, 2, 2, 3), 2);
        c.due("the last one", y.seen(0, 2, 4, 1), 1);
        c.due("one more ahead", y.seen(0, 2, 1, 4), 0);
    }

    private static void refusedSeen(Clauses c) {
        KitchenWheels x = Dues.told("na;ja;o1;");
        x.row(0, 2, 12);
        c.of(28, "BAD: JOB,");
        c.bad("seen(?, 0, 0, 1)", job -> x.seen(job, 0, 0, 1), 0, 5);
        c.of(28, "ROW,");
        c.bad("seen(0, ?, 0, 1)", row -> x.seen(0, row, 0, 1), 0, 7);
        c.of(28, "n;");
        c.bad("seen(0, 0, 0, ?)", n -> x.seen(0, 0, 0, n), 1, 12);
        c.due("12 fit", x.seen(0, 0, 0, 12), 1);
        c.same("BAD ahead of NULL", n -> x.seen(0, 1, 0, n), Dues.BAD, 0, 13, -1);
        c.of(28, "STATE: no KITCHEN (ahead of BAD);");
        KitchenWheels none = new KitchenWheels();
        none.row(0, 2, 12);
        c.same("seen(?, 0, 0, 1)", job -> none.seen(job, 0, 0, 1), Dues.STATE, 0, 6);
        c.same("seen(0, ?, 0, 1)", row -> none.seen(0, row, 0, 1), Dues.STATE, 0, 1, 8);
        c.same("seen(0, 0, 0, ?)", n -> none.seen(0, 0, 0, n), Dues.STATE, 1, 0, 13);
        c.of(28, "NULL;");
        c.same("seen(0, ?, 0, 1)", row -> x.seen(0, row, 0, 1), Dues.NULL, 1, 7);
        c.due("ahead of PLACE", x.seen(0, 1, -1, 1), Dues.NULL);
        c.of(28, "PLACE.");
        c.same("seen(0, 0, ?, 1)", i -> x.seen(0, 0, i, 1), Dues.PLACE, -1, 12, 13, MIN, MAX);
        c.same("seen(0, 0, ?, 12)", i -> x.seen(0, 0, i, 12), Dues.PLACE, 1, -1, MAX);
        c.same("seen(0, 0, ?, 1)", i -> x.seen(0, 0, i, 1), 1, 0, 11);
    }

    private static void turnedAs(Clauses c, KitchenWheels x, int turner, int want, int... turned) {
        Dues.lay(x, 0, turned);
        c.due("turner " + turner + " in " + turned.length, x.who(turner, 0, 0, turned.length), want);
    }

    private static void who(Clauses c) {
        c.term("WHO: a row tells TURNED behind each of n WEEKS (1 to 12):");
        KitchenWheels x = Dues.told("na;jabcdefzz;s3;");
        turnedAs(c, x, 0, 2, 1);
        turnedAs(c, x, 0, 4, 3, 6, 1, 4, 7, 2, 5, 0, 3, 6, 1, 4);
        turnedAs(c, x, 0, 0, 3, 6, 1, 4, 7, 2, 5, 0, 3, 6, 1, 5);
        turnedAs(c, x, 0, 0, 0);
        x.turn(6);
        turnedAs(c, x, 0, 2, 7, 0, 1);
        c.term("KINDS (bits 1 to 5) of a turner by which it is so.");
        KitchenWheels y = Dues.told("na;jabcdefzz;o3;");
        turnedAs(c, y, 0, 2, 1, 2);
        turnedAs(c, y, 0, 4, 3, 6);
        turnedAs(c, y, 0, 8, 4, 7);
        turnedAs(c, y, 0, 16, 3, 7);
        turnedAs(c, y, 0, 32, 5, 1);
        turnedAs(c, y, 0, 20, 3);
        turnedAs(c, Dues.told("na;ja;o3;"), 0, 62, 0, 0, 0, 0);
        c.due("he stays as he is", y.kind(0), 1);
        KitchenWheels four = Dues.told("na;jabcdefzz;s1;s1;s1;s2;");
        turnedAs(c, four, 3, 62, 1, 2, 3);
        turnedAs(c, four, 3, 2, 1, 2, 3, 4);
        // in WEEK 3 both turns by 2, a law by 5 and he who puts right by 5 back
        turnedAs(c, four, 3, 12, 1, 2, 3, 5);
        turnedAs(c, four, 3, 16, 1, 2, 3, 0);
        turnedAs(c, four, 3, 32, 1, 2, 3, 6);
        c.of(29, "WHO, n ITEMS of a ROW from i on.");
        Dues.lay(four, 2, 9, 1, 2, 3, 4);
        c.due("the last four", four.who(3, 2, 1, 4), 2);
        c.due("the first", four.who(3, 2, 0, 1), 0);
        c.due("the second", four.who(3, 2, 1, 1), 62);
    }

    private static void refusedWho(Clauses c) {
        KitchenWheels x = Dues.told("na;ja;o1;s2;");
        x.row(0, 2, 12);
        c.of(29, "BAD: TURNER,");
        c.bad("who(?, 0, 0, 1)", turner -> x.who(turner, 0, 0, 1), 0, 1);
        KitchenWheels none = new KitchenWheels();
        none.row(0, 2, 12);
        c.due("no KITCHEN", none.who(0, 0, 0, 1), Dues.BAD);
        c.of(29, "ROW,");
        c.bad("who(0, ?, 0, 1)", row -> x.who(0, row, 0, 1), 0, 7);
        c.of(29, "n;");
        c.bad("who(0, 0, 0, ?)", n -> x.who(0, 0, 0, n), 1, 12);
        c.due("12 fit", x.who(0, 0, 0, 12), 62);
        c.same("BAD ahead of NULL", n -> x.who(0, 1, 0, n), Dues.BAD, 0, 13, -1);
        c.of(29, "NULL;");
        c.same("who(0, ?, 0, 1)", row -> x.who(0, row, 0, 1), Dues.NULL, 1, 7);
        c.due("ahead of PLACE", x.who(0, 1, -1, 1), Dues.NULL);
        c.of(29, "PLACE.");
        c.same("who(0, 0, ?, 1)", i -> x.who(0, 0, i, 1), Dues.PLACE, -1, 12, 13, MIN, MAX);
        c.same("who(0, 0, ?, 12)", i -> x.who(0, 0, i, 12), Dues.PLACE, 1, -1, MAX);
        c.same("who(0, 0, ?, 1)", i -> x.who(0, 0, i, 1), 62, 0, 11);
    }
}
