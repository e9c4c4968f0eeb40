/** Part 2: who has which job, what a WEEK does, and what ACTS are. */
final class WeekClauses {
    static void test(Clauses c) {
        jobsHad(c);
        jobsOfThoseAway(c);
        turning(c);
        endOfWeek(c);
        acts(c);
    }

    private static void jobsHad(Clauses c) {
        c.term("In a WEEK the name in SLOT k has the job in that SLOT of jobs which is the rest of k and "
            + "TURNED by how many there are.");
        KitchenWheels many = Dues.told("nabcdefab;jabc;s0;");
        KitchenWheels few = Dues.told("nab;jabcdefza;s0;");
        for (int turned = 0; turned < 9; turned++) {
            for (int slot = 0; slot < 8; slot++) {
                c.due("more names, turned " + turned + ", slot " + slot, many.slot(slot, 2), (slot + turned) % 3);
            }
            for (int slot = 0; slot < 2; slot++) {
                int at = (slot + turned) % 8;
                // the last SLOT's job is a again
                c.due("more jobs, turned " + turned + ", slot " + slot, few.slot(slot, 2), at < 7 ? at : 0);
            }
            many.turn(1);
            few.turn(1);
        }
        KitchenWheels one = Dues.told("nabcdefab;jf;o1;");
        one.weeks(3);
        c.due("one job, slot 0", one.slot(0, 2), 5);
        c.due("one job, slot 7", one.slot(7, 2), 5);

        c.term("Who has an empty SLOT's job, or nobody's job, is none: it is not DONE.");
        KitchenWheels x = Dues.told("nzab;jazc;s0;");
        c.due("an empty SLOT's", x.whoDoes(0, 0), 0);
        c.due("nobody's", x.hasJobs(0, 0), 0);
        c.due("b's own", x.whoDoes(2, 0), 2);
        x.weeks(1);
        c.due("one job is DONE", x.count(5), 1);
        KitchenWheels empty = Dues.told("nzzzzzzzz;jabcdefab;s0;");
        empty.weeks(24);
        c.due("none is DONE by empty SLOTS", empty.count(5), 0);
        KitchenWheels nobodys = Dues.told("nabcdefab;jzzzzzzzz;s0;");
        nobodys.weeks(24);
        c.due("none of nobody's is DONE", nobodys.count(5), 0);
    }

    private static void jobsOfThoseAway(Clauses c) {
        c.term("A job of one who is away is DONE by the next name behind (SLOT by SLOT,");
        KitchenWheels x = Dues.told("nabc;jabc;s0;");
        x.leave(0);
        c.due("the next SLOT's name", x.whoDoes(0, 0), 2);
        x.leave(1);
        c.due("the SLOT's behind that", x.whoDoes(0, 0), 4);
        c.due("b's, too", x.whoDoes(1, 0), 4);
        KitchenWheels gaps = Dues.told("nazzb;jabcd;s0;");
        gaps.leave(0);
        c.due("empty SLOTS are passed", gaps.whoDoes(0, 0), 2);
        c.due("their jobs are not DONE", gaps.whoDoes(1, 0), 0);
        KitchenWheels same = Dues.told("naab;jabc;s0;");
        same.leave(0);
        c.due("a's other SLOT is passed", same.whoDoes(0, 0), 2);
        KitchenWheels nobodys = Dues.told("nab;jza;s0;");
        nobodys.leave(0);
        nobodys.weeks(1);
        c.due("nobody's job is DONE by none", nobodys.count(5), 1);

        c.term("behind the last the first)");
        KitchenWheels y = Dues.told("nabc;jabc;s0;");
        y.leave(2);
        c.due("the first", y.whoDoes(2, 0), 1);
        y.leave(0);
        c.due("the second", y.whoDoes(2, 0), 2);
        KitchenWheels eight = Dues.told("nzbzzzzza;jabcdefba;s0;");
        eight.leave(0);
        c.due("the second of eight", eight.whoDoes(0, 0), 2);

        c.term("who is not away;");
        c.due("he does his own", y.whoDoes(1, 0), 2);
        c.due("and all others'", y.hasJobs(1, 0), 7);
        y.weeks(1);
        c.due("a's", y.done(1, 0), 1);
        c.due("his own", y.done(1, 1), 1);
        c.due("c's", y.done(1, 2), 1);

        c.term("by none, if there is none.");
        KitchenWheels z = Dues.told("nab;jab;s0;");
        z.leave(0);
        z.leave(1);
        c.due("whoDoes(0, 0)", z.whoDoes(0, 0), 0);
        z.weeks(1);
        c.due("none is DONE", z.count(5), 0);
    }

    private static void turnsTo(Clauses c, String sort, int... turned) {
        KitchenWheels x = Dues.told("na;jabcdefzz;" + sort + ";");
        for (int week = 0; week < turned.length; week++) {
            c.due(sort + " in WEEK " + week, x.weeks(1), turned[week]);
        }
    }

    private static void turning(Clauses c) {
        c.term("A WEEK: each job that is DONE is DONE once more by who does it;");
        KitchenWheels x = Dues.told("naab;jffz;s0;");
        x.weeks(1);
        c.due("in two SLOTS", x.done(0, 5), 2);
        c.due("nobody's", x.count(5), 2);
        x.weeks(2);
        c.due("in three WEEKS", x.done(0, 5), 6);

        c.term("then the turner who is the rest of WEEK by TURNERS turns:");
        KitchenWheels two = Dues.told("na;jabcdefzz;s1;s3;");
        int[] turned = {1, 4, 5, 0, 1};
        for (int want : turned) {
            c.due("of two", two.weeks(1), want);
        }
        KitchenWheels four = Dues.told("na;jabcdefzz;s1;s0;s2;s3;");
        int[] then = {1, 1, 3, 6, 7, 7, 1, 4};
        for (int want : then) {
            c.due("of four", four.weeks(1), want);
        }
        c.due("DONE ahead of turning", four.done(0, 0), 1);

        c.term("one by one: 1;");
        turnsTo(c, "o0", 1, 2, 3);
        turnsTo(c, "o9", 1, 2, 3, 4, 5, 6, 7, 0);
        c.term("a step: BY;");
        turnsTo(c, "s0", 0, 0);
        turnsTo(c, "s9", 1, 2, 3);
        turnsTo(c, "s7", 7, 6, 5);
        c.term("both: BY, and 1 more if WEEK is even;");
        turnsTo(c, "b0", 1, 1, 2, 2, 3);
        turnsTo(c, "b9", 2, 3, 5, 6);
        c.term("a law: WEEK and BY;");
        turnsTo(c, "l0", 0, 1, 3, 6, 2, 7, 5);
        turnsTo(c, "l9", 1, 3, 6, 2);
        c.term("one who puts right: that, but as much back, if WEEK is a multiple of 3.");
        turnsTo(c, "r0", 0, 1, 3, 0, 4, 1, 3, 2);
        turnsTo(c, "r9", 7, 1, 4, 0, 5);

        c.term("TURNED is that more (back: less), of which the rest by how many SLOTS of jobs there are is "
            + "left (0 or more).");
        turnsTo(c, "s8", 0);
        turnsTo(c, "r8", 0);
        turnsTo(c, "r1", 7);
        KitchenWheels back = Dues.told("na;jabc;r9;");
        back.turn(2);
        c.due("9 back from 2, of three", back.weeks(1), 2);
        KitchenWheels one = Dues.told("na;ja;r7;");
        c.due("7 back, of one", one.weeks(1), 0);
        lateTurning(c);
    }

    private static void lateTurning(Clauses c) {
        KitchenWheels x = Dues.told("na;jabcdefzz;r9;");
        for (int i = 0; i < 41; i++) {
            x.weeks(24);
        }
        x.weeks(14);
        int turned = x.drawn(0, 1, 1);
        // 998 is no multiple of 3, so he turns on, by 998 and 9: that is 7 more than a multiple of 8
        c.due("in WEEK 998", x.weeks(1), (turned + 7) % 8);
    }

    private static void endOfWeek(Clauses c) {
        KitchenWheels x = Dues.told("nab;jab;s0;");
        x.leave(0);
        x.leave(1);
        x.leave(5);
        c.term("Nobody is away any more.");
        x.weeks(1);
        c.due("a does his own", x.hasJobs(0, 0), 1);
        c.due("b does his own", x.hasJobs(1, 0), 2);
        c.due("only he who leaves again", x.leave(5), 32);
        x.weeks(2);
        c.due("in the second of two WEEKS neither", x.count(5), 4);
        c.term("WEEK is 1 more.");
        c.due("three", x.count(4), 3);
        x.weeks(1);
        c.due("four", x.count(4), 4);
    }

    private static void acts(Clauses c) {
        c.term("ACTS (24 at most are kept,");
        KitchenWheels x = Dues.told("na;jabcdefzz;s0;");
        for (int i = 1; i <= 26; i++) {
            x.turn(1);
            c.due("kept of " + i, x.count(6), Math.min(i, 24));
        }
        c.term("of more the oldest is forgotten;");
        for (int left = 23; left >= 0; left--) {
            c.due("undo()", x.undo(), left);
        }
        c.due("undo()", x.undo(), Dues.STATE);
        c.due("the first two are not undone", x.drawn(0, 1, 1), 2);
        for (int i = 0; i < 100; i++) {
            x.turn(1);
        }
        for (int left = 23; left >= 0; left--) {
            c.due("undo() behind 100 more", x.undo(), left);
            c.due("TURNED", x.drawn(0, 1, 1), (2 + 100 - 24 + left) % 8);
        }
        c.due("no more", x.undo(), Dues.STATE);
        KitchenWheels one = Dues.told("na;jabcdefzz;s1;");
        one.turn(3);
        one.weeks(24);
        for (int i = 0; i < 24; i++) {
            one.undo();
        }
        c.due("the 25th is not undone", one.drawn(0, 1, 1), 3);
        c.due("all WEEKS are", one.count(4), 0);

        c.term("each can be undone, the latest first):");
        KitchenWheels y = Dues.told("nab;jab;s1;");
        y.leave(1);
        y.name(0, 5);
        y.job(1, 6);
        y.turn(1);
        y.weeks(1);
        c.due("five ACTS", y.count(6), 5);
        c.term("a WEEK;");
        c.due("DONE", y.count(5), 1);
        c.due("undo()", y.undo(), 4);
        c.due("WEEK", y.count(4), 0);
        c.due("DONE", y.count(5), 0);
        c.due("TURNED", y.drawn(0, 1, 1), 1);
        c.due("he is away again", y.leave(1), Dues.STATE);
        undoneOnes(c, y);
    }

    private static void undoneOnes(Clauses c, KitchenWheels y) {
        c.term("TURNED is n more.");
        c.due("undo()", y.undo(), 3);
        c.due("TURNED", y.drawn(0, 1, 1), 0);
        c.due("the job is yet nobody's", y.slot(1, 1), 6);
        c.term("a job in a SLOT is another one (or nobody's);");
        c.due("undo()", y.undo(), 2);
        c.due("the job", y.slot(1, 1), 1);
        c.due("the name is yet f", y.slot(0, 0), 5);
        c.term("a name in a SLOT is another one (or it is empty);");
        c.due("undo()", y.undo(), 1);
        c.due("the name", y.slot(0, 0), 0);
        c.due("he is yet away", y.hasJobs(1, 0), 0);
        c.term("one of the PEOPLE is away in this one;");
        c.due("undo()", y.undo(), 0);
        c.due("he is there", y.hasJobs(1, 0), 2);
    }
}
