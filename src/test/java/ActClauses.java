/** Promises 9 to 17, 33, 34 and 39: what is done, undone, kept and counted. */
final class ActClauses {
    static void test(Clauses c) {
        undo(c);
        weeks(c);
        fullWeeks(c);
        leave(c);
        name(c);
        job(c);
        turn(c);
        done(c);
        slot(c);
        turner(c);
        image(c);
        restore(c);
        count(c);
    }

    private static void undo(Clauses c) {
        c.of(9, "The latest ACT is undone: how many can be undone yet.");
        KitchenWheels x = Dues.told("na;jabcdefzz;s1;");
        x.weeks(24);
        for (int left = 23; left >= 0; left--) {
            c.due("undo()", x.undo(), left);
            c.due("WEEK", x.count(4), left);
            c.due("TURNED", x.drawn(0, 1, 1), left % 8);
        }
        x.turn(1);
        x.turn(1);
        c.due("one of two", x.undo(), 1);
        x.turn(5);
        c.due("the newer one", x.undo(), 1);
        c.due("TURNED", x.drawn(0, 1, 1), 1);
        c.of(9, "STATE: none.");
        c.due("the last", x.undo(), 0);
        c.due("none", x.undo(), Dues.STATE);
        c.due("none", x.undo(), Dues.STATE);
        c.due("no KITCHEN", new KitchenWheels().undo(), Dues.STATE);
        x.weeks(0);
        x.leave(6);
        x.name(1, 0);
        x.job(8, 0);
        x.turn(0);
        c.due("refused calls are none", x.undo(), Dues.STATE);
    }

    private static void weeks(Clauses c) {
        c.of(10, "n WEEKS (1 to 24),");
        KitchenWheels x = Dues.told("na;jabcdefzz;o1;");
        c.due("weeks(1)", x.weeks(1), 1);
        c.due("WEEK", x.count(4), 1);
        c.due("weeks(24)", x.weeks(24), 1);
        c.due("WEEK", x.count(4), 25);
        c.of(10, "an ACT each:");
        KitchenWheels y = Dues.told("na;jabcdefzz;o1;");
        y.weeks(1);
        c.due("one", y.count(6), 1);
        y.weeks(3);
        c.due("three more", y.count(6), 4);
        y.undo();
        c.due("one of three is undone", y.count(4), 3);
        c.of(10, "TURNED.");
        c.due("4 of 8", y.weeks(1), 4);
        c.due("8 of 8", y.weeks(4), 0);
        c.due("one job", Dues.told("na;ja;o1;").weeks(5), 0);
        c.of(10, "BAD;");
        c.bad("weeks(?)", n -> x.weeks(n), 1, 24);
        c.of(10, "STATE: no KITCHEN (ahead of BAD);");
        KitchenWheels none = new KitchenWheels();
        c.same("weeks(?)", n -> none.weeks(n), Dues.STATE, 1, 24, 0, 25, -1);
    }

    private static void fullWeeks(Clauses c) {
        c.of(10, "FULL: WEEK would be above 999.");
        KitchenWheels x = Dues.told("na;jabcdefzz;s1;");
        for (int i = 0; i < 41; i++) {
            x.weeks(24);
        }
        c.due("WEEK", x.count(4), 984);
        c.due("up to 1000", x.weeks(16), Dues.FULL);
        c.due("up to 1008", x.weeks(24), Dues.FULL);
        c.due("nothing passed", x.count(4), 984);
        c.due("BAD ahead of FULL", x.weeks(25), Dues.BAD);
        c.due("up to 999", x.weeks(15), 999 % 8);
        c.due("WEEK", x.count(4), 999);
        c.due("one more", x.weeks(1), Dues.FULL);
        c.due("undone", x.undo(), 23);
        c.due("two more than 998", x.weeks(2), Dues.FULL);
        c.due("one more than 998", x.weeks(1), 999 % 8);
        c.due("what is foretold goes on", x.drawn(60, 1, 1), 1059 % 8);
        c.due("other ACTS go on", x.turn(1), 1000 % 8);
    }

    private static void leave(Clauses c) {
        c.of(11, "One is away in this WEEK: who is (bits).");
        KitchenWheels x = Dues.told("na;ja;o1;");
        int away = 0;
        for (int person = 5; person >= 0; person--) {
            away |= 1 << person;
            c.due("leave(" + person + ")", x.leave(person), away);
        }
        c.due("he does nothing now", x.hasJobs(0, 0), 0);
        c.due("in this WEEK alone", x.hasJobs(0, 1), 1);
        c.of(11, "BAD;");
        c.bad("leave(?)", person -> x.leave(person), 0, 5);
        c.of(11, "STATE: no KITCHEN (ahead of BAD),");
        KitchenWheels none = new KitchenWheels();
        c.same("leave(?)", person -> none.leave(person), Dues.STATE, 0, 5, 6, -1);
        c.of(11, "he is.");
        c.same("leave(?)", person -> x.leave(person), Dues.STATE, 0, 1, 2, 3, 4, 5);
        c.due("six ACTS", x.count(6), 6);
        x.weeks(1);
        c.due("in the next WEEK he may", x.leave(5), 32);
        c.due("again he may not", x.leave(5), Dues.STATE);
    }

    private static void name(Clauses c) {
        c.of(12, "A name in a SLOT (0 to 5; 6: empty):");
        KitchenWheels x = Dues.told("nabz;jabcdefzz;s0;");
        x.name(0, 5);
        x.name(1, 6);
        x.name(2, 0);
        c.due("f", x.slot(0, 0), 5);
        c.due("empty", x.slot(1, 0), 6);
        c.due("an empty SLOT's job", x.whoDoes(1, 0), 0);
        c.due("a", x.slot(2, 0), 0);
        c.due("an ACT each", x.count(6), 3);
        c.of(12, "what it was (6: empty).");
        c.due("it was f", x.name(0, 0), 5);
        c.due("it was empty", x.name(1, 1), 6);
        c.due("it was a", x.name(2, 6), 0);
        c.due("it was empty", x.name(2, 6), 6);
        c.of(12, "BAD;");
        c.bad("name(?, 0)", slot -> x.name(slot, 0), 0, 2);
        c.bad("name(0, ?)", person -> x.name(0, person), 0, 6);
        c.due("jobs' SLOTS are none of names", x.name(7, 0), Dues.BAD);
        KitchenWheels eight = Dues.told("nabcdefab;ja;s0;");
        c.bad("name(?, 0)", slot -> eight.name(slot, 0), 0, 7);
        c.of(12, "STATE: no KITCHEN (ahead of BAD).");
        KitchenWheels none = new KitchenWheels();
        c.same("name(?, 0)", slot -> none.name(slot, 0), Dues.STATE, 0, 8, -1);
        c.same("name(0, ?)", person -> none.name(0, person), Dues.STATE, 0, 7, -1);
    }

    private static void job(Clauses c) {
        c.of(13, "A job in a SLOT (0 to 5; 6: nobody's):");
        KitchenWheels x = Dues.told("nabcdefab;jabz;s0;");
        x.job(0, 5);
        x.job(1, 6);
        x.job(2, 0);
        c.due("f", x.slot(0, 1), 5);
        c.due("nobody's", x.slot(1, 1), 6);
        c.due("b has none", x.hasJobs(1, 0), 0);
        c.due("a", x.slot(2, 1), 0);
        c.due("an ACT each", x.count(6), 3);
        c.of(13, "what it was.");
        c.due("it was f", x.job(0, 0), 5);
        c.due("it was nobody's", x.job(1, 1), 6);
        c.due("it was a", x.job(2, 6), 0);
        c.due("it was nobody's", x.job(2, 6), 6);
        c.of(13, "BAD;");
        c.bad("job(?, 0)", slot -> x.job(slot, 0), 0, 2);
        c.bad("job(0, ?)", what -> x.job(0, what), 0, 6);
        c.due("names' SLOTS are none of jobs", x.job(7, 0), Dues.BAD);
        KitchenWheels eight = Dues.told("na;jabcdefab;s0;");
        c.bad("job(?, 0)", slot -> eight.job(slot, 0), 0, 7);
        c.of(13, "STATE: no KITCHEN (ahead of BAD).");
        KitchenWheels none = new KitchenWheels();
        c.same("job(?, 0)", slot -> none.job(slot, 0), Dues.STATE, 0, 8, -1);
        c.same("job(0, ?)", what -> none.job(0, what), Dues.STATE, 0, 7, -1);
    }

    private static void turn(Clauses c) {
        c.of(14, "TURNED is n (1 to 8) more: what it is.");
        KitchenWheels x = Dues.told("na;jabcdefzz;s0;");
        c.due("turn(1)", x.turn(1), 1);
        c.due("turn(8): all around", x.turn(8), 1);
        c.due("turn(7): behind the last the first", x.turn(7), 0);
        KitchenWheels three = Dues.told("na;jabc;s0;");
        c.due("turn(8) of three", three.turn(8), 2);
        c.due("turn(8) of three", three.turn(8), 1);
        c.due("turn(8) of one", Dues.told("na;ja;s0;").turn(8), 0);
        c.due("an ACT each", x.count(6), 3);
        c.due("no WEEK", x.count(4), 0);
        c.of(14, "BAD;");
        c.bad("turn(?)", n -> x.turn(n), 1, 8);
        c.of(14, "STATE: no KITCHEN (ahead of BAD).");
        KitchenWheels none = new KitchenWheels();
        c.same("turn(?)", n -> none.turn(n), Dues.STATE, 1, 8, 0, 9);
    }

    private static void done(Clauses c) {
        c.of(15, "How often one has DONE a job.");
        KitchenWheels x = Dues.told("naf;jaf;s0;");
        c.due("none yet", x.done(0, 0), 0);
        x.weeks(3);
        c.due("done(0, 0)", x.done(0, 0), 3);
        c.due("done(5, 5)", x.done(5, 5), 3);
        c.due("done(0, 5)", x.done(0, 5), 0);
        c.due("done(5, 0)", x.done(5, 0), 0);
        c.due("one who is not on it", x.done(1, 1), 0);
        c.of(15, "BAD;");
        c.bad("done(?, 0)", person -> x.done(person, 0), 0, 5);
        c.bad("done(0, ?)", job -> x.done(0, job), 0, 5);
        c.of(15, "STATE: no KITCHEN (ahead of BAD).");
        KitchenWheels none = new KitchenWheels();
        c.same("done(?, 0)", person -> none.done(person, 0), Dues.STATE, 0, 6, -1);
        c.same("done(0, ?)", job -> none.done(0, job), Dues.STATE, 0, 6, -1);
    }

    private static void slot(Clauses c) {
        KitchenWheels x = Dues.told("nafzb;jcz;s0;");
        KitchenWheels wide = Dues.told("na;jabcdefza;s0;");
        c.of(16, "Of a SLOT (0 to 7):");
        c.due("the first", wide.slot(0, 1), 0);
        c.due("the last", wide.slot(7, 1), 0);
        c.of(16, "0 the name (6: empty; NONE: no such SLOT),");
        c.due("a", x.slot(0, 0), 0);
        c.due("f", x.slot(1, 0), 5);
        c.due("empty", x.slot(2, 0), 6);
        c.due("b", x.slot(3, 0), 1);
        c.same("slot(?, 0)", slot -> x.slot(slot, 0), Dues.NONE, 4, 7);
        c.same("slot(?, 0) with more jobs", slot -> wide.slot(slot, 0), Dues.NONE, 1, 7);
        c.of(16, "1 the job (6: nobody's; NONE),");
        c.due("c", x.slot(0, 1), 2);
        c.due("nobody's", x.slot(1, 1), 6);
        c.same("slot(?, 1) with more names", slot -> x.slot(slot, 1), Dues.NONE, 2, 3, 7);
        c.of(16, "2 the job the name in it has now (6: none; NONE).");
        c.due("c", x.slot(0, 2), 2);
        c.due("nobody's", x.slot(1, 2), 6);
        c.due("an empty SLOT's", x.slot(2, 2), 6);
        c.due("nobody's, around", x.slot(3, 2), 6);
        c.same("slot(?, 2)", slot -> x.slot(slot, 2), Dues.NONE, 4, 7);
        c.same("slot(?, 2) with more jobs", slot -> wide.slot(slot, 2), Dues.NONE, 1, 7);
        x.turn(1);
        c.due("around", x.slot(3, 2), 2);
        c.due("nobody's", x.slot(0, 2), 6);
        x.turn(1);
        x.leave(0);
        c.due("he has it though away", x.slot(0, 2), 2);
        c.of(16, "BAD;");
        c.bad("slot(?, 0)", slot -> x.slot(slot, 0), 0, 7);
        c.bad("slot(0, ?)", what -> x.slot(0, what), 0, 2);
        c.due("BAD ahead of NONE", x.slot(7, 3), Dues.BAD);
        c.of(16, "STATE: no KITCHEN (ahead of BAD).");
        KitchenWheels none = new KitchenWheels();
        c.same("slot(?, 0)", slot -> none.slot(slot, 0), Dues.STATE, 0, 8, -1);
        c.same("slot(0, ?)", what -> none.slot(0, what), Dues.STATE, 0, 3, -1);
    }

    private static void turner(Clauses c) {
        KitchenWheels x = Dues.told("na;ja;o9;s0;b9;r9;");
        c.of(17, "Of a turner: 0 BY,");
        c.due("the first", x.turner(0, 0), 9);
        c.due("0", x.turner(1, 0), 0);
        c.due("the last", x.turner(3, 0), 9);
        c.of(17, "1 how far he would turn in this WEEK (1000 more; back: less).");
        int[][] far = {{1001, 1000, 1010, 991}, {1001, 1000, 1009, 1010}, {1001, 1000, 1010, 1011},
            {1001, 1000, 1009, 988}};
        for (int week = 0; week < 4; week++) {
            for (int turner = 0; turner < 4; turner++) {
                c.due(turner + " in WEEK " + week, x.turner(turner, 1), far[week][turner]);
            }
            x.weeks(1);
        }
        KitchenWheels law = Dues.told("na;ja;l0;r0;");
        c.due("none by a law", law.turner(0, 1), 1000);
        c.due("none back", law.turner(1, 1), 1000);
        for (int i = 0; i < 41; i++) {
            law.weeks(24);
        }
        law.weeks(15);
        c.due("a law in WEEK 999", law.turner(0, 1), 1999);
        c.due("back in WEEK 999", law.turner(1, 1), 1);
        c.of(17, "BAD.");
        c.bad("turner(?, 0)", turner -> x.turner(turner, 0), 0, 3);
        c.bad("turner(?, 1)", turner -> law.turner(turner, 1), 0, 1);
        c.bad("turner(0, ?)", what -> x.turner(0, what), 0, 1);
        KitchenWheels none = new KitchenWheels();
        c.same("no KITCHEN", turner -> none.turner(turner, 0), Dues.BAD, 0, 3);
    }

    private static void image(Clauses c) {
        c.of(33, "An IMAGE (0, 1) is kept of the KITCHEN: 1.");
        KitchenWheels x = Dues.told("nab;jab;s1;");
        c.due("image(0)", x.image(0), 1);
        x.weeks(1);
        c.due("image(1)", x.image(1), 1);
        c.due("no ACT", x.count(6), 1);
        x.weeks(1);
        x.restore(0);
        c.due("of WEEK 0", x.count(4), 0);
        x.restore(1);
        c.due("of WEEK 1", x.count(4), 1);
        x.weeks(3);
        c.due("another in its place", x.image(1), 1);
        x.restore(0);
        x.restore(1);
        c.due("of WEEK 4", x.count(4), 4);
        c.of(33, "BAD;");
        c.bad("image(?)", k -> x.image(k), 0, 1);
        KitchenWheels none = new KitchenWheels();
        c.same("BAD ahead of STATE", k -> none.image(k), Dues.BAD, -1, 2);
        c.of(33, "STATE: no KITCHEN.");
        c.same("image(?)", k -> none.image(k), Dues.STATE, 0, 1);
    }

    private static void restore(Clauses c) {
        c.of(34, "The KITCHEN is as an IMAGE kept it");
        KitchenWheels x = Dues.told("nabz;jabcd;s1;l2;");
        x.weeks(2);
        x.leave(1);
        x.image(1);
        Dues.tell(x, "nf;jf;r9;");
        x.weeks(1);
        c.due("restore(1)", x.restore(1), 1);
        c.due("names", x.count(1), 3);
        c.due("jobs", x.count(2), 4);
        c.due("TURNERS", x.count(3), 2);
        c.due("WEEK", x.count(4), 2);
        c.due("DONE", x.count(5), 4);
        c.due("DONE by a", x.done(0, 1), 1);
        c.due("TURNED", x.drawn(0, 1, 1), 0);
        c.due("name", x.slot(2, 0), 6);
        c.due("job", x.slot(3, 1), 3);
        c.due("turner", x.kind(1), 4);
        c.due("BY", x.turner(1, 0), 2);
        c.due("away", x.hasJobs(1, 0), 0);
        x.name(0, 4);
        x.job(0, 4);
        x.weeks(1);
        x.restore(1);
        c.due("the IMAGE's name stays", x.slot(0, 0), 0);
        c.due("the IMAGE's job stays", x.slot(0, 1), 0);
        c.due("the IMAGE's DONE stays", x.count(5), 4);
        c.of(34, "(no ACT can be undone then): 1.");
        x.turn(1);
        c.due("restore(1)", x.restore(1), 1);
        c.due("none", x.count(6), 0);
        c.due("undo()", x.undo(), Dues.STATE);
        c.of(34, "BAD;");
        c.bad("restore(?)", k -> x.restore(k), 0, 1);
        KitchenWheels none = new KitchenWheels();
        c.same("BAD ahead of STATE", k -> none.restore(k), Dues.BAD, -1, 2);
        c.of(34, "STATE: none was kept.");
        c.same("restore(?)", k -> none.restore(k), Dues.STATE, 0, 1);
        c.due("the other was kept", x.restore(0), Dues.STATE);
    }

    private static void count(Clauses c) {
        KitchenWheels x = Dues.told("nabcdefzz;jabcdefz;o1;s2;b3;l4;");
        for (int row = 0; row < 8; row++) {
            x.row(row, 0, 0);
        }
        x.drop(3);
        x.weeks(2);
        x.turn(1);
        x.feed('n');
        c.of(39, "How many: 0 ROWS,");
        c.due("seven of eight", x.count(0), 7);
        c.of(39, "1 names' SLOTS,");
        c.due("empty ones, too", x.count(1), 8);
        c.of(39, "2 jobs' SLOTS,");
        c.due("nobody's, too", x.count(2), 7);
        c.of(39, "3 TURNERS,");
        c.due("four", x.count(3), 4);
        c.of(39, "4 WEEK,");
        c.due("two", x.count(4), 2);
        c.of(39, "5 all DONE,");
        // six in the first WEEK; in the second f has nobody's
        c.due("eleven", x.count(5), 11);
        c.of(39, "6 ACTS that can be undone,");
        c.due("three", x.count(6), 3);
        c.of(39, "7 bytes on the tape.");
        c.due("one", x.count(7), 1);
        c.of(39, "BAD.");
        c.bad("count(?)", what -> x.count(what), 0, 7);
        KitchenWheels none = new KitchenWheels();
        c.same("none of them without a KITCHEN", what -> none.count(what), 0, 0, 1, 2, 3, 4, 5, 6, 7);
    }
}
