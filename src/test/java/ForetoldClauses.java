import java.util.List;
import java.util.function.ToLongFunction;

/** Part 3 and promises 18 to 23 and 30 to 32: who does what when, and how likely. */
final class ForetoldClauses {
    /**
     * Turners by whom TURNED is 0 in WEEK 84, and in none from WEEK 24 on ahead of it: of four WEEKS the first turns by
     * 8 (1 of 7 SLOTS) and the last by 6 (1 back), so that only the third counts.
     */
    private static final String LATE = "b7;s7;r8;s6;";

    static void test(Clauses c) {
        nothingChanges(c);
        has(c);
        whoDoes(c);
        often(c);
        meets(c);
        all(c);
        round(c);
        pairs(c);
        forgets(c);
        years(c);
    }

    private static KitchenWheels late(int weeks, String wheels) {
        KitchenWheels x = Dues.told(wheels + LATE);
        x.weeks(24);
        if (weeks > 24) {
            x.weeks(weeks - 24);
        }
        return x;
    }

    private static void nothingChanges(Clauses c) {
        c.term("FORETOLD (nothing changes;");
        KitchenWheels x = Dues.told("nabz;jabcz;l1;r3;");
        x.weeks(1);
        x.leave(1);
        Dues.lay(x, 0, 1, 2, 3);
        x.hasJobs(0, 60);
        x.whoDoes(0, 60);
        x.often(0, 0, 60);
        x.meets(0, 0);
        x.allMet();
        x.round();
        x.fairest(60, 0);
        x.owed(0);
        x.right(0, 3, 60, 0);
        x.twice();
        x.seen(0, 0, 0, 3);
        x.who(0, 0, 0, 3);
        x.pairs(60);
        x.forgets(0, 0, 8, 3, 0);
        x.drawn(60, 9, 0);
        c.due("WEEK", x.count(4), 1);
        c.due("DONE", x.count(5), 2);
        c.due("ACTS", x.count(6), 2);
        c.due("TURNED", x.drawn(0, 1, 1), 1);
        c.due("away", x.hasJobs(1, 0), 0);
        for (int slot = 0; slot < 3; slot++) {
            c.due("name " + slot, x.slot(slot, 0), new int[] {0, 1, 6}[slot]);
        }
        c.due("kind", x.kind(0), 4);
        answersStay(c, x);

        c.term("nobody is away but in this WEEK).");
        KitchenWheels y = Dues.told("nab;jab;s0;");
        y.leave(0);
        y.leave(1);
        c.due("hasJobs(0, 0)", y.hasJobs(0, 0), 0);
        c.due("hasJobs(0, 1)", y.hasJobs(0, 1), 1);
        c.due("whoDoes(1, 0)", y.whoDoes(1, 0), 0);
        c.due("whoDoes(1, 1)", y.whoDoes(1, 1), 2);
        c.due("often(0, 0, 2)", y.often(0, 0, 2), 1);
        c.due("meets(0, 0)", y.meets(0, 0), 1);
        c.due("right(0, 0, 0, 0)", y.right(0, 0, 0, 0), Dues.NONE);
        c.due("right(0, 0, 1, 0)", y.right(0, 0, 1, 0), 0);
        c.due("forgets(0, 0, 0, 5, 0)", y.forgets(0, 0, 0, 5, 0), 0);
        c.due("forgets(0, 0, 1, 5, 0)", y.forgets(0, 0, 1, 5, 0), 1);
    }

    /** Asked in turn and then backwards, all are answered alike. */
    private static void answersStay(Clauses c, KitchenWheels x) {
        x.name(2, 5);
        x.job(3, 1);
        List<ToLongFunction<KitchenWheels>> asked = List.of(
            y -> y.hasJobs(0, 3), y -> y.whoDoes(1, 2), y -> y.often(0, 1, 9), y -> y.meets(5, 1), y -> y.owed(5),
            KitchenWheels::allMet, KitchenWheels::round, y -> y.pairs(1), y -> y.pairs(60), y -> y.fairest(60, 0),
            y -> y.fairest(1, 1), y -> y.right(5, 0, 2, 1), KitchenWheels::twice, y -> y.seen(1, 0, 0, 1),
            y -> y.who(0, 0, 0, 1), y -> y.forgets(0, 1, 8, 3, 0), y -> y.forgets(0, 1, 1, 3, 0),
            y -> y.drawn(60, 9, 0), y -> y.drawn(1, 9, 0));
        long[] answers = new long[asked.size()];
        for (int i = 0; i < answers.length; i++) {
            answers[i] = asked.get(i).applyAsLong(x);
        }
        for (int i = answers.length - 1; i >= 0; i--) {
            c.due("question " + i + " again", asked.get(i).applyAsLong(x), answers[i]);
        }
    }

    private static void has(Clauses c) {
        c.term("HAS for one of the PEOPLE behind n WEEKS (0 to 60): JOBS (bits) he does then.");
        KitchenWheels x = late(24, "nb;jazbzzzb;");
        c.due("behind 60", x.hasJobs(1, 60), 1);
        c.due("behind 59", x.hasJobs(1, 59), 0);
        KitchenWheels y = Dues.told("naaf;jafb;o1;");
        c.due("behind 0", y.hasJobs(0, 0), 33);
        c.due("behind 1", y.hasJobs(0, 1), 34);
        c.due("behind 2", y.hasJobs(0, 2), 3);
        c.due("not on it", y.hasJobs(4, 0), 0);
        c.of(18, "HAS.");
        c.due("hasJobs(5, 0)", y.hasJobs(5, 0), 2);
        c.due("hasJobs(5, 2)", y.hasJobs(5, 2), 32);
        c.of(18, "BAD;");
        c.bad("hasJobs(?, 0)", person -> y.hasJobs(person, 0), 0, 5);
        c.bad("hasJobs(0, ?)", n -> y.hasJobs(0, n), 0, 60);
        c.of(18, "STATE: no KITCHEN (ahead of BAD).");
        KitchenWheels none = new KitchenWheels();
        c.same("hasJobs(?, 0)", person -> none.hasJobs(person, 0), Dues.STATE, 0, 6, -1);
        c.same("hasJobs(0, ?)", n -> none.hasJobs(0, n), Dues.STATE, 0, 61, -1);
    }

    private static void whoDoes(Clauses c) {
        c.term("WHO DOES a job then: PEOPLE (bits).");
        KitchenWheels x = late(24, "nb;jazbzzzb;");
        c.due("behind 60", x.whoDoes(0, 60), 2);
        c.due("behind 59", x.whoDoes(0, 59), 0);
        KitchenWheels y = Dues.told("nabf;jaab;o1;");
        c.due("behind 0", y.whoDoes(0, 0), 3);
        c.due("behind 1", y.whoDoes(0, 1), 33);
        c.due("a job that is not on it", y.whoDoes(5, 0), 0);
        c.of(19, "WHO DOES.");
        c.due("whoDoes(1, 0)", y.whoDoes(1, 0), 32);
        c.of(19, "BAD;");
        c.bad("whoDoes(?, 0)", job -> y.whoDoes(job, 0), 0, 5);
        c.bad("whoDoes(0, ?)", n -> y.whoDoes(0, n), 0, 60);
        c.of(19, "STATE: no KITCHEN (ahead of BAD).");
        KitchenWheels none = new KitchenWheels();
        c.same("whoDoes(?, 0)", job -> none.whoDoes(job, 0), Dues.STATE, 0, 6, -1);
        c.same("whoDoes(0, ?)", n -> none.whoDoes(0, n), Dues.STATE, 0, 61, -1);
    }

    private static void often(Clauses c) {
        c.term("OFTEN: how often one does a job in the next n WEEKS (0 to 60; this one the first).");
        KitchenWheels x = late(25, "nb;jazbzzzb;");
        c.due("in 59", x.often(1, 0, 59), 0);
        c.due("in 60", x.often(1, 0, 60), 1);
        KitchenWheels y = Dues.told("naab;jffz;s0;");
        c.due("in 0", y.often(0, 5, 0), 0);
        c.due("in this one, in two SLOTS", y.often(0, 5, 1), 2);
        c.due("in 60", y.often(0, 5, 60), 120);
        c.of(20, "OFTEN.");
        y.leave(0);
        c.due("a in the next but one", y.often(0, 5, 2), 2);
        c.due("b for him in this one", y.often(1, 5, 2), 2);
        c.of(20, "BAD;");
        c.bad("often(?, 0, 1)", person -> y.often(person, 0, 1), 0, 5);
        c.bad("often(0, ?, 1)", job -> y.often(0, job, 1), 0, 5);
        c.bad("often(0, 0, ?)", n -> y.often(0, 0, n), 0, 60);
        c.of(20, "STATE: no KITCHEN (ahead of BAD).");
        KitchenWheels none = new KitchenWheels();
        c.same("often(?, 0, 0)", person -> none.often(person, 0, 0), Dues.STATE, 0, 6);
        c.same("often(0, ?, 0)", job -> none.often(0, job, 0), Dues.STATE, 0, 6);
        c.same("often(0, 0, ?)", n -> none.often(0, 0, n), Dues.STATE, 0, 61, -1);
    }

    private static void meets(Clauses c) {
        c.term("MEETS: behind how many WEEKS (0: in this one; 60 at most) one first does a job;");
        KitchenWheels x = late(24, "nb;jazbzzzb;");
        c.due("behind 60", x.meets(1, 0), 60);
        KitchenWheels y = Dues.told("na;jbfa;o1;");
        c.due("in this one", y.meets(0, 1), 0);
        c.due("behind 1", y.meets(0, 5), 1);
        c.due("behind 2", y.meets(0, 0), 2);
        y.leave(0);
        c.due("away in this one", y.meets(0, 1), 3);
        c.term("NONE.");
        x.undo();
        c.due("behind 61", x.meets(1, 0), Dues.NONE);
        c.due("a job that is not on it", y.meets(0, 4), Dues.NONE);
        c.due("one who is not on it", y.meets(5, 0), Dues.NONE);
        c.of(21, "MEETS;");
        c.due("meets(0, 5)", y.meets(0, 5), 1);
        c.of(21, "NONE.");
        c.due("still", Dues.told("nab;jab;s0;").meets(0, 1), Dues.NONE);
        c.of(21, "BAD;");
        c.bad("meets(?, 0)", person -> y.meets(person, 0), 0, 5);
        c.bad("meets(0, ?)", job -> y.meets(0, job), 0, 5);
        c.of(21, "STATE: no KITCHEN (ahead of BAD).");
        KitchenWheels none = new KitchenWheels();
        c.same("meets(?, 0)", person -> none.meets(person, 0), Dues.STATE, 0, 6, -1);
        c.same("meets(0, ?)", job -> none.meets(0, job), Dues.STATE, 0, 6, -1);
    }

    private static void all(Clauses c) {
        c.term("ALL: the fewest WEEKS from now (1 to 60; this one the first)");
        KitchenWheels x = late(25, "nb;jazbzzzb;");
        c.due("60", x.allMet(), 60);
        c.due("1", Dues.told("na;ja;s0;").allMet(), 1);
        c.due("2", Dues.told("nab;jab;o1;").allMet(), 2);
        c.term("in which each who is on the wheel does each job that is on it (nobody's aside) at least once;");
        c.due("nobody's aside", Dues.told("na;jaz;s0;").allMet(), 1);
        c.due("empty SLOTS aside", Dues.told("nzzaz;jab;o1;").allMet(), 2);
        c.due("a's two SLOTS together", Dues.told("naa;jab;s0;").allMet(), 1);
        c.due("the last of the PEOPLE", Dues.told("nf;jab;o1;").allMet(), 2);
        c.due("the last of the JOBS", Dues.told("na;jaf;o1;").allMet(), 2);
        KitchenWheels y = Dues.told("nab;jab;o1;");
        y.leave(5);
        c.due("one away who is not on it", y.allMet(), 2);
        y.leave(0);
        c.due("a is away in the first", y.allMet(), 3);
        c.term("NONE.");
        x.undo();
        c.due("61", x.allMet(), Dues.NONE);
        c.due("never", Dues.told("nab;jab;s0;").allMet(), Dues.NONE);
        c.of(22, "ALL;");
        c.due("of eight", Dues.told("na;jabcdefaf;o1;").allMet(), 6);
        c.of(22, "NONE: nobody, no job is on it, too.");
        c.due("nobody", Dues.told("nzz;ja;o1;").allMet(), Dues.NONE);
        c.due("no job", Dues.told("na;jzz;o1;").allMet(), Dues.NONE);
        c.due("neither", Dues.told("nz;jz;o1;").allMet(), Dues.NONE);
        c.of(22, "STATE: no KITCHEN.");
        c.due("allMet()", new KitchenWheels().allMet(), Dues.STATE);
    }

    private static void round(Clauses c) {
        c.term("ROUND: behind how many WEEKS (1 to 100) TURNED is first as now,");
        c.due("it never turns", Dues.told("na;jab;s0;").round(), 6);
        c.due("of 5 SLOTS", Dues.told("na;jabcde;o1;").round(), 30);
        c.due("of 8 SLOTS", Dues.told("na;jabcdefza;o1;").round(), 24);
        KitchenWheels x = Dues.told("na;jaaaaaaaa;l9;r9;b9;s0;");
        c.due("the longest", x.round(), 96);
        x.turn(3);
        c.due("as now, not as at first", x.round(), 96);
        c.term("and WEEKS are a multiple of TURNERS,");
        c.due("of 4", Dues.told("na;ja;s0;s0;s0;s0;").round(), 12);
        c.due("of 3", Dues.told("na;ja;s0;s0;s0;").round(), 6);
        c.due("of 2", Dues.told("na;ja;s0;s0;").round(), 6);
        c.term("of 6;");
        c.due("of 7 SLOTS, by 1", Dues.told("na;jaaaaaaa;o1;").round(), 42);
        c.due("of 2 SLOTS, by 1", Dues.told("na;jaa;o1;").round(), 6);
        c.term("NONE.");
        // no text and no WEEK comes to it: 96 are the most that any needs
        c.due("the longest of 7 SLOTS", Dues.told("na;jaaaaaaa;o1;o1;o1;o1;").round(), 84);
        c.of(23, "ROUND;");
        KitchenWheels law = Dues.told("na;jaaaaaaa;l0;");
        // 0 to 35 are 630, a multiple of 7; of 6, 12, 18, 24, 30 WEEKS 15, 66, 153, 276, 435
        c.due("by a law", law.round(), 36);
        c.of(23, "NONE.");
        for (int i = 0; i < 41; i++) {
            law.weeks(24);
        }
        law.weeks(15);
        // 999 is 5 of 7, so that n WEEKS turn by 5 n and n (n - 1) / 2: n times (n + 9), a multiple of 7 at 12
        c.due("none even in WEEK 999", law.round(), 12);
        c.of(23, "STATE: no KITCHEN.");
        c.due("round()", new KitchenWheels().round(), Dues.STATE);
    }

    private static void pairs(Clauses c) {
        c.term("PAIRS: pairs of PEOPLE who do one and the same job in one of the next n WEEKS (1 to 60; this "
            + "one the first).");
        KitchenWheels x = late(25, "nbc;jaazzzzz;");
        c.due("in 59", x.pairs(59), 0);
        c.due("in 60", x.pairs(60), 1);
        KitchenWheels y = Dues.told("nabc;jaab;o1;");
        c.due("in this one", y.pairs(1), 1);
        c.due("in 2", y.pairs(2), 2);
        c.due("in 3", y.pairs(3), 3);
        c.due("each pair once", y.pairs(60), 3);
        c.due("in this one again", y.pairs(1), 1);
        c.due("all of them", Dues.told("nabcdefab;jf;s0;").pairs(1), 15);
        c.due("one with himself", Dues.told("naa;ja;s0;").pairs(60), 0);
        c.due("nobody's job", Dues.told("nab;jz;s0;").pairs(60), 0);
        c.due("one job, not in one WEEK", Dues.told("nab;jaz;o1;").pairs(60), 0);
        c.of(30, "PAIRS.");
        KitchenWheels away = Dues.told("nabc;jaab;s0;");
        away.leave(1);
        c.due("c for b", away.pairs(1), 1);
        c.due("then b himself", away.pairs(2), 2);
        c.of(30, "BAD;");
        c.bad("pairs(?)", n -> y.pairs(n), 1, 60);
        c.of(30, "STATE: no KITCHEN (ahead of BAD).");
        KitchenWheels none = new KitchenWheels();
        c.same("pairs(?)", n -> none.pairs(n), Dues.STATE, 1, 60, 0, 61);
    }

    private static void likely(Clauses c, KitchenWheels x, int weeks, int forgotten, long above, long below) {
        String call = "forgets(0, 0, " + weeks + ", " + forgotten + ", ";
        c.due(call + "0)", x.forgets(0, 0, weeks, forgotten, 0), above);
        c.due(call + "1)", x.forgets(0, 0, weeks, forgotten, 1), below);
    }

    private static void forgets(Clauses c) {
        KitchenWheels x = Dues.told("nab;jab;o1;");
        c.term("FORGETS by p of 10 (0 to 10):");
        likely(c, x, 1, 0, 0, 1);
        likely(c, x, 1, 1, 1, 10);
        likely(c, x, 1, 9, 9, 10);
        likely(c, x, 1, 10, 1, 1);
        c.term("in each of n WEEKS (0 to 8) nobody turns in p of 10 cases, apart:");
        likely(c, x, 0, 5, 1, 1);
        likely(c, x, 2, 2, 17, 25);
        // an even number of turns of 8, by 9 of 10 each: half of 1 and 0.8 to the 8th
        likely(c, x, 8, 1, 456161, 781250);
        likely(c, x, 8, 0, 1, 1);
        likely(c, x, 8, 10, 1, 1);
        // from WEEK 1 on two WEEKS pass without a turn, then the first turner's comes
        KitchenWheels third = Dues.told("na;jza;s1;s0;s0;");
        third.weeks(1);
        likely(c, third, 2, 5, 1, 1);
        likely(c, third, 3, 5, 1, 2);
        c.term("how likely one does a job behind them: a fraction.");
        c.due("the other's, above", x.forgets(1, 0, 8, 1, 0), 781250 - 456161);
        c.due("the other's, below", x.forgets(1, 0, 8, 1, 1), 781250);
        KitchenWheels y = Dues.told("na;jazzzzzza;s0;");
        y.turn(7);
        likely(c, y, 3, 5, 1, 1);
        KitchenWheels both = Dues.told("na;jaa;o1;");
        likely(c, both, 8, 3, 1, 1);
        c.of(31, "FORGETS: above (what = 0),");
        c.due("above", x.forgets(0, 1, 1, 4, 0), 3);
        c.of(31, "below (1).");
        c.due("below", x.forgets(0, 1, 1, 4, 1), 5);
        c.of(31, "BAD;");
        c.bad("forgets(?, 0, 0, 0, 0)", person -> x.forgets(person, 0, 0, 0, 0), 0, 5);
        c.bad("forgets(0, ?, 0, 0, 0)", job -> x.forgets(0, job, 0, 0, 0), 0, 5);
        c.bad("forgets(0, 0, ?, 0, 0)", n -> x.forgets(0, 0, n, 0, 0), 0, 8);
        c.bad("forgets(0, 0, 0, ?, 0)", p -> x.forgets(0, 0, 0, p, 0), 0, 10);
        c.bad("forgets(0, 0, 0, 0, ?)", what -> x.forgets(0, 0, 0, 0, what), 0, 1);
        c.of(31, "STATE: no KITCHEN (ahead of BAD).");
        KitchenWheels none = new KitchenWheels();
        c.same("forgets(?, 0, 0, 0, 0)", person -> none.forgets(person, 0, 0, 0, 0), Dues.STATE, 0, 6);
        c.same("forgets(0, ?, 0, 0, 0)", job -> none.forgets(0, job, 0, 0, 0), Dues.STATE, 0, 6);
        c.same("forgets(0, 0, ?, 0, 0)", n -> none.forgets(0, 0, n, 0, 0), Dues.STATE, 0, 9);
        c.same("forgets(0, 0, 0, ?, 0)", p -> none.forgets(0, 0, 0, p, 0), Dues.STATE, 0, 11);
        c.same("forgets(0, 0, 0, 0, ?)", what -> none.forgets(0, 0, 0, 0, what), Dues.STATE, 0, 2);
    }

    private static void years(Clauses c) {
        c.term("YEARS of n WEEKS (0 to 60) by a SEED (X at first):");
        KitchenWheels y = Dues.told("nab;jab;s0;");
        c.due("0", y.drawn(0, 1, 0), 0);
        c.due("60", y.drawn(60, 1, 0), 120);
        c.term("ahead of each X becomes the rest of (X times 16807) by 2147483647;");
        // by SEED 1: 16807, 282475249, 1622650073, 984943658, 1144108930, so that b, b, f, c, e are away
        int[][] done = {{1, 2, 3, 4, 5}, {0, 0, 1, 2, 3}, {1, 2, 3, 3, 4}, {1, 2, 3, 4, 5}, {1, 2, 3, 4, 4},
            {1, 2, 2, 3, 4}};
        for (int person = 0; person < 6; person++) {
            KitchenWheels alone = Dues.told("n" + (char) ('a' + person) + ";ja;s0;");
            for (int weeks = 1; weeks <= 5; weeks++) {
                c.due(person + " in " + weeks, alone.drawn(weeks, 1, 0), done[person][weeks - 1]);
            }
        }
        c.term("the one of the PEOPLE who is the rest of X by 6 is away in it, too (on the wheel or not):");
        KitchenWheels b = Dues.told("nb;ja;s0;");
        // by SEED 999999: 1774597664, so that c is away, who is not on it
        c.due("one who is not on it", b.drawn(1, 999999, 0), 1);
        c.due("one who is", b.drawn(1, 1, 0), 0);
        y.leave(0);
        c.due("both are away", y.drawn(1, 1, 0), 0);
        c.due("a in the first alone", y.drawn(2, 1, 0), 2);
        c.term("how much is DONE in these;");
        c.due("an empty SLOT's and nobody's aside", Dues.told("nazab;jabzc;s0;").drawn(10, 5, 0), 20);
        c.due("three of four", Dues.told("naaab;jabzc;s0;").drawn(1, 999999, 0), 3);
        // from WEEK 1 on a has nobody's job in three WEEKS, then job 0 in three; a is away in none of the first five
        KitchenWheels third = Dues.told("na;jaz;s1;s0;s0;");
        third.weeks(1);
        c.due("none in 3", third.drawn(3, 1, 0), 0);
        c.due("one in 4", third.drawn(4, 1, 0), 1);
        c.due("two in 5", third.drawn(5, 1, 0), 2);
        c.term("TURNED then.");
        KitchenWheels x = late(24, "nb;jazbzzzb;");
        c.due("behind 60", x.drawn(60, 1, 1), 0);
        c.due("behind 59", x.drawn(59, 1, 1), 1);
        c.due("behind 0", x.drawn(0, 1, 1), 5);
        c.of(32, "YEARS by a SEED (1 to 999999):");
        c.due("the least", b.drawn(3, 1, 0), 1);
        c.due("the greatest", b.drawn(1, 999999, 0), 1);
        c.of(32, "DONE (what = 0),");
        c.due("DONE", b.drawn(4, 1, 0), 2);
        c.of(32, "TURNED (1).");
        c.due("TURNED", Dues.told("na;jabc;s2;").drawn(4, 1, 1), 2);
        c.of(32, "BAD;");
        c.bad("drawn(?, 1, 0)", n -> y.drawn(n, 1, 0), 0, 60);
        c.bad("drawn(1, ?, 0)", seed -> y.drawn(1, seed, 0), 1, 999999);
        c.bad("drawn(1, 1, ?)", what -> y.drawn(1, 1, what), 0, 1);
        c.of(32, "STATE: no KITCHEN (ahead of BAD).");
        KitchenWheels none = new KitchenWheels();
        c.same("drawn(?, 1, 0)", n -> none.drawn(n, 1, 0), Dues.STATE, 0, 61);
        c.same("drawn(1, ?, 0)", seed -> none.drawn(1, seed, 0), Dues.STATE, 1, 0, 1000000);
        c.same("drawn(1, 1, ?)", what -> none.drawn(1, 1, what), Dues.STATE, 0, 2);
    }
}
