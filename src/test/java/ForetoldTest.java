/** Promises 18 to 24, 26, 27 and 30 to 32: what is foretold of who does what, and how fair it is. */
public final class ForetoldTest {
    private static final Dues D = new Dues();
    /** Job a comes to b behind 60 weeks only, once 24 have passed. */
    private static final String LATE = "nb;jazbzzzb;b7;s7;r8;s6;";

    public static void main(String[] args) {
        jobsAreForetold();
        doersAreForetold();
        timesAreForetold();
        meetingsAreForetold();
        allMeetAll();
        roundsEnd();
        fairestTurnIsFound();
        swapsAreFound();
        nameToWriteIsFound();
        pairsAreCounted();
        forgettingIsLikely();
        yearsAreDrawn();
        turnersOfLaterWeeksTurn();
        nothingChanges();
        allIsRefusedWithoutKitchen();
        D.end("ForetoldTest");
    }

    private static void jobsAreForetold() {
        KitchenWheels x = Dues.told("nabc;jabd;s1;");
        int[][] want = {{1, 2, 8}, {2, 8, 1}, {8, 1, 2}, {1, 2, 8}};
        for (int week = 0; week < 4; week++) {
            for (int person = 0; person < 3; person++) {
                D.due(18, "hasJobs(" + person + ", " + week + ")", x.hasJobs(person, week), want[week][person]);
            }
        }
        D.due(18, "behind 60", x.hasJobs(1, 60), 2);
        D.due(18, "behind 59", x.hasJobs(1, 59), 1);
        D.due(18, "not on it", x.hasJobs(5, 0), 0);
        x.leave(0);
        D.due(18, "away", x.hasJobs(0, 0), 0);
        D.due(18, "who does it for him", x.hasJobs(1, 0), 3);
        D.due(18, "there again", x.hasJobs(0, 1), 2);
        D.due(18, "his own alone", x.hasJobs(1, 1), 8);
        for (int wrong : new int[] {-1, 6, Integer.MAX_VALUE, Integer.MIN_VALUE}) {
            D.due(18, "no person", x.hasJobs(wrong, 0), Dues.BAD);
        }
        for (int wrong : new int[] {-1, 61, Integer.MAX_VALUE, Integer.MIN_VALUE}) {
            D.due(18, "no weeks", x.hasJobs(0, wrong), Dues.BAD);
        }
        KitchenWheels law = Dues.told("na;jabcdefzz;l5;");
        law.weeks(2);
        D.due(18, "the turner's week goes on", law.hasJobs(0, 1), 4);
        D.due(18, "and on", law.hasJobs(0, 3), 8);
    }

    private static void doersAreForetold() {
        KitchenWheels x = Dues.told("nabc;jaab;s0;");
        D.due(19, "whoDoes(0, 0)", x.whoDoes(0, 0), 3);
        D.due(19, "whoDoes(1, 0)", x.whoDoes(1, 0), 4);
        D.due(19, "whoDoes(2, 0)", x.whoDoes(2, 0), 0);
        D.due(19, "whoDoes(0, 60)", x.whoDoes(0, 60), 3);
        x.leave(1);
        D.due(19, "one away", x.whoDoes(0, 0), 5);
        D.due(19, "there again", x.whoDoes(0, 1), 3);
        KitchenWheels y = Dues.told("nabc;jaab;o1;");
        D.due(19, "behind 1", y.whoDoes(0, 1), 5);
        D.due(19, "behind 2", y.whoDoes(0, 2), 6);
        for (int wrong : new int[] {-1, 6, Integer.MAX_VALUE, Integer.MIN_VALUE}) {
            D.due(19, "no job", x.whoDoes(wrong, 0), Dues.BAD);
        }
        for (int wrong : new int[] {-1, 61, Integer.MAX_VALUE, Integer.MIN_VALUE}) {
            D.due(19, "no weeks", x.whoDoes(0, wrong), Dues.BAD);
        }
    }

    private static void timesAreForetold() {
        KitchenWheels x = Dues.told("naab;jaab;s0;");
        D.due(20, "none", x.often(0, 0, 0), 0);
        D.due(20, "twice a week", x.often(0, 0, 10), 20);
        D.due(20, "in 60", x.often(0, 0, 60), 120);
        D.due(20, "b", x.often(1, 1, 7), 7);
        D.due(20, "b not a", x.often(1, 0, 7), 0);
        x.leave(0);
        D.due(20, "a is away in the first", x.often(0, 0, 3), 4);
        D.due(20, "b in the first", x.often(1, 0, 3), 2);
        KitchenWheels y = Dues.told("na;jab;o1;");
        D.due(20, "in 1", y.often(0, 0, 1), 1);
        D.due(20, "in 2", y.often(0, 0, 2), 1);
        D.due(20, "in 5", y.often(0, 0, 5), 3);
        for (int wrong : new int[] {-1, 6, Integer.MAX_VALUE, Integer.MIN_VALUE}) {
            D.due(20, "no person", x.often(wrong, 0, 1), Dues.BAD);
            D.due(20, "no job", x.often(0, wrong, 1), Dues.BAD);
        }
        for (int wrong : new int[] {-1, 61, Integer.MAX_VALUE, Integer.MIN_VALUE}) {
            D.due(20, "no weeks", x.often(0, 0, wrong), Dues.BAD);
        }
    }

    private static void meetingsAreForetold() {
        KitchenWheels x = Dues.told("na;jbcdefzza;o1;");
        D.due(21, "now", x.meets(0, 1), 0);
        D.due(21, "behind 7", x.meets(0, 0), 7);
        D.due(21, "behind 4", x.meets(0, 5), 4);
        D.due(21, "never", x.meets(1, 0), Dues.NONE);
        x.leave(0);
        D.due(21, "away now", x.meets(0, 1), 8);
        KitchenWheels late = Dues.told(LATE);
        late.weeks(23);
        D.due(21, "behind 61", late.meets(1, 0), Dues.NONE);
        late.weeks(1);
        D.due(21, "behind 60", late.meets(1, 0), 60);
        for (int wrong : new int[] {-1, 6, Integer.MAX_VALUE, Integer.MIN_VALUE}) {
            D.due(21, "no person", x.meets(wrong, 0), Dues.BAD);
            D.due(21, "no job", x.meets(0, wrong), Dues.BAD);
        }
    }

    private static void allMeetAll() {
        D.due(22, "one and one", Dues.told("na;ja;s0;").allMet(), 1);
        D.due(22, "two and two", Dues.told("nab;jab;o1;").allMet(), 2);
        D.due(22, "nobody's aside", Dues.told("nab;jazb;o1;").allMet(), 3);
        D.due(22, "never", Dues.told("nab;jab;s0;").allMet(), Dues.NONE);
        D.due(22, "nobody", Dues.told("nz;ja;o1;").allMet(), Dues.NONE);
        D.due(22, "no job", Dues.told("na;jz;o1;").allMet(), Dues.NONE);
        D.due(22, "empty slots", Dues.told("nzaz;jabc;o1;").allMet(), 3);
        KitchenWheels x = Dues.told("nab;jab;o1;");
        x.leave(0);
        D.due(22, "a is away in the first", x.allMet(), 3);
        KitchenWheels late = Dues.told(LATE);
        late.weeks(24);
        D.due(22, "in 61", late.allMet(), Dues.NONE);
        late.weeks(1);
        D.due(22, "in 60", late.allMet(), 60);
    }

    private static void roundsEnd() {
        D.due(23, "still", Dues.told("na;ja;s0;").round(), 6);
        D.due(23, "two turners", Dues.told("na;ja;s0;s0;").round(), 6);
        D.due(23, "three turners", Dues.told("na;ja;s0;s0;s0;").round(), 6);
        D.due(23, "four turners", Dues.told("na;ja;s0;s0;s0;s0;").round(), 12);
        D.due(23, "five slots", Dues.told("na;jaaaaa;o1;").round(), 30);
        D.due(23, "seven slots", Dues.told("na;jaaaaaaa;o1;").round(), 42);
        D.due(23, "seven slots, four turners", Dues.told("na;jaaaaaaa;o1;o1;o1;o1;").round(), 84);
        D.due(23, "a law", Dues.told("na;jaaaaaaa;l0;").round(), 36);
        KitchenWheels x = Dues.told("na;jaaaaaaaa;l9;r9;b9;s0;");
        D.due(23, "long", x.round(), 96);
        x.turn(3);
        D.due(23, "from elsewhere", x.round(), 96);
    }

    private static void fairestTurnIsFound() {
        KitchenWheels x = Dues.told("nab;jaz;o1;");
        D.due(24, "in 1", x.fairest(1, 0), 1);
        D.due(24, "in 1, of several the first", x.fairest(1, 1), 1);
        D.due(24, "in 2", x.fairest(2, 0), 0);
        D.due(24, "in 2", x.fairest(2, 1), 1);
        D.due(24, "in 3", x.fairest(3, 0), 1);
        KitchenWheels y = Dues.told("nab;jazza;l7;");
        D.due(24, "by 2", y.fairest(2, 0), 0);
        D.due(24, "by 2", y.fairest(2, 1), 2);
        y.leave(0);
        D.due(24, "nobody counts as away", y.fairest(2, 1), 2);
        D.due(24, "in 1", y.fairest(1, 0), 1);
        y.turn(1);
        D.due(24, "from as it is: neither does any", y.fairest(1, 0), 0);
        D.due(24, "from as it is: in the second both do", y.fairest(2, 1), 2);
        D.due(24, "not turned back", Dues.told("nab;jazz;o1;").fairest(2, 1), 2);
        KitchenWheels z = Dues.told("nz;ja;o1;");
        D.due(24, "nobody", z.fairest(60, 0), 0);
        D.due(24, "nobody", z.fairest(60, 1), 1);
        KitchenWheels still = Dues.told("nbaa;jzbzzazbz;o0;b3;");
        still.weeks(18);
        D.due(24, "by 8", still.fairest(2, 1), 8);
        D.due(24, "by 8", still.fairest(2, 0), 0);
        KitchenWheels one = Dues.told("naab;ja;o1;");
        D.due(24, "in 60", one.fairest(60, 0), 60);
        for (int wrong : new int[] {0, 61, -1, Integer.MAX_VALUE, Integer.MIN_VALUE}) {
            D.due(24, "no weeks", x.fairest(wrong, 0), Dues.BAD);
        }
        for (int wrong : new int[] {-1, 2, Integer.MAX_VALUE, Integer.MIN_VALUE}) {
            D.due(24, "no what", x.fairest(1, wrong), Dues.BAD);
        }
    }

    private static void swap(KitchenWheels x, int person, int job, int weeks, int times, int slots) {
        String call = "right(" + person + ", " + job + ", " + weeks + ")";
        D.due(26, call, x.right(person, job, weeks, 0), times);
        D.due(26, call, x.right(person, job, weeks, 1), slots);
    }

    private static void swapsAreFound() {
        KitchenWheels x = Dues.told("nabc;jabc;o1;");
        swap(x, 0, 0, 0, 0, Dues.NONE);
        swap(x, 0, 1, 0, 1, 1);
        swap(x, 0, 2, 0, 1, 2);
        swap(x, 2, 1, 0, 1, 12);
        swap(x, 5, 0, 0, Dues.NONE, Dues.NONE);
        swap(x, 0, 5, 0, Dues.NONE, Dues.NONE);
        swap(x, 0, 0, 1, 1, 2);
        swap(x, 2, 0, 1, 0, Dues.NONE);
        swap(x, 1, 0, 60, 1, 1);
        x.leave(0);
        swap(x, 0, 1, 0, Dues.NONE, Dues.NONE);
        swap(x, 1, 0, 0, 0, Dues.NONE);
        swap(x, 2, 0, 0, 1, 2);
        swap(x, 0, 0, 1, 1, 2);
        KitchenWheels y = Dues.told("naab;jabc;s0;");
        swap(y, 0, 2, 0, 1, 2);
        swap(y, 1, 1, 9, 1, 12);
        KitchenWheels z = Dues.told("nabcdefzz;jabcdefzc;s0;");
        swap(z, 5, 2, 0, 1, 25);
        swap(z, 0, 2, 3, 1, 2);
        z.job(2, 6);
        swap(z, 5, 2, 0, 1, 57);
        for (int wrong : new int[] {-1, 6, Integer.MAX_VALUE, Integer.MIN_VALUE}) {
            D.due(26, "no person", x.right(wrong, 0, 0, 0), Dues.BAD);
            D.due(26, "no job", x.right(0, wrong, 0, 0), Dues.BAD);
        }
        for (int wrong : new int[] {-1, 61, Integer.MAX_VALUE, Integer.MIN_VALUE}) {
            D.due(26, "no weeks", x.right(0, 0, wrong, 0), Dues.BAD);
        }
        for (int wrong : new int[] {-1, 2, Integer.MAX_VALUE, Integer.MIN_VALUE}) {
            D.due(26, "no what", x.right(0, 0, 0, wrong), Dues.BAD);
        }
    }

    private static void nameToWriteIsFound() {
        D.due(27, "no empty slot", Dues.told("nab;jab;o1;").twice(), Dues.NONE);
        D.due(27, "a new one", Dues.told("nzab;jaaa;s0;").twice(), 2);
        D.due(27, "the only one", Dues.told("nzz;jaz;s0;").twice(), 0);
        D.due(27, "one twice", Dues.told("nbz;jaz;s0;").twice(), 1);
        D.due(27, "as it is turned, in 12 weeks", Dues.told("nbz;jaz;o1;").twice(), 0);
        D.due(27, "the first empty slot", Dues.told("nazz;jaza;s0;").twice(), 0);
        D.due(27, "the first empty slot", Dues.told("nazbz;jaaaz;s0;").twice(), 2);
        KitchenWheels x = Dues.told("nzab;jaaa;s0;");
        x.leave(2);
        D.due(27, "who is away now is", x.twice(), 3);
    }

    private static void pairsAreCounted() {
        D.due(30, "still", Dues.told("nabc;jaab;s0;").pairs(60), 1);
        KitchenWheels x = Dues.told("nabc;jaab;o1;");
        D.due(30, "in 1", x.pairs(1), 1);
        D.due(30, "in 2", x.pairs(2), 2);
        D.due(30, "in 3", x.pairs(3), 3);
        D.due(30, "in 60", x.pairs(60), 3);
        D.due(30, "one with himself", Dues.told("naab;jaab;s0;").pairs(9), 0);
        D.due(30, "all", Dues.told("nabcdef;ja;s0;").pairs(1), 15);
        D.due(30, "not in one week", Dues.told("nab;jab;o1;").pairs(60), 0);
        KitchenWheels y = Dues.told("nabc;jaab;s0;");
        y.leave(1);
        D.due(30, "one away, in 1", y.pairs(1), 1);
        D.due(30, "one away, in 2", y.pairs(2), 2);
        for (int wrong : new int[] {0, 61, -1, Integer.MAX_VALUE, Integer.MIN_VALUE}) {
            D.due(30, "no weeks", x.pairs(wrong), Dues.BAD);
        }
    }

    private static void likely(KitchenWheels x, int job, int weeks, int forgotten, long above, long below) {
        String call = "forgets(0, " + job + ", " + weeks + ", " + forgotten + ")";
        D.due(31, call, x.forgets(0, job, weeks, forgotten, 0), above);
        D.due(31, call, x.forgets(0, job, weeks, forgotten, 1), below);
    }

    private static void forgettingIsLikely() {
        KitchenWheels x = Dues.told("nab;jab;o1;");
        likely(x, 0, 0, 7, 1, 1);
        likely(x, 1, 0, 7, 0, 1);
        likely(x, 0, 1, 3, 3, 10);
        likely(x, 0, 1, 5, 1, 2);
        likely(x, 0, 1, 0, 0, 1);
        likely(x, 0, 1, 10, 1, 1);
        likely(x, 0, 2, 2, 17, 25);
        likely(x, 0, 8, 1, 456161, 781250);
        likely(x, 5, 8, 1, 0, 1);
        KitchenWheels y = Dues.told("na;jabcdefzz;s1;s3;");
        for (int job = 0; job < 5; job++) {
            likely(y, job, 2, 5, job == 2 ? 0 : 1, job == 2 ? 1 : 4);
        }
        KitchenWheels eight = Dues.told("na;jabcdefza;s0;");
        eight.turn(7);
        likely(eight, 0, 3, 5, 1, 1);
        x.leave(0);
        likely(x, 0, 0, 0, 0, 1);
        likely(x, 0, 1, 10, 1, 1);
        for (int wrong : new int[] {-1, 6, Integer.MAX_VALUE, Integer.MIN_VALUE}) {
            D.due(31, "no person", x.forgets(wrong, 0, 0, 0, 0), Dues.BAD);
            D.due(31, "no job", x.forgets(0, wrong, 0, 0, 0), Dues.BAD);
        }
        for (int wrong : new int[] {-1, 9, Integer.MAX_VALUE, Integer.MIN_VALUE}) {
            D.due(31, "no weeks", x.forgets(0, 0, wrong, 0, 0), Dues.BAD);
        }
        for (int wrong : new int[] {-1, 11, Integer.MAX_VALUE, Integer.MIN_VALUE}) {
            D.due(31, "no cases", x.forgets(0, 0, 0, wrong, 0), Dues.BAD);
        }
        for (int wrong : new int[] {-1, 2, Integer.MAX_VALUE, Integer.MIN_VALUE}) {
            D.due(31, "no what", x.forgets(0, 0, 0, 0, wrong), Dues.BAD);
        }
    }

    private static void yearsAreDrawn() {
        // by seed 1 these are away: b, b, f, c, e
        KitchenWheels x = Dues.told("nb;ja;s0;");
        int[] done = {0, 0, 0, 1, 2, 3};
        for (int weeks = 0; weeks < done.length; weeks++) {
            D.due(32, "drawn(" + weeks + ", 1, 0)", x.drawn(weeks, 1, 0), done[weeks]);
        }
        KitchenWheels y = Dues.told("nab;jab;s0;");
        D.due(32, "a does both", y.drawn(2, 1, 0), 4);
        y.leave(0);
        D.due(32, "all are away", y.drawn(1, 1, 0), 0);
        D.due(32, "a is away in the first", y.drawn(2, 1, 0), 2);
        KitchenWheels z = Dues.told("na;jabc;s2;");
        D.due(32, "TURNED", z.drawn(4, 1, 1), 2);
        D.due(32, "TURNED", z.drawn(0, 999999, 1), 0);
        D.due(32, "TURNED", z.drawn(59, 999999, 1), 1);
        D.due(32, "in 60", Dues.told("naa;jzz;s2;").drawn(60, 5, 0), 0);
        D.due(32, "in 60", Dues.told("nab;jab;s2;").drawn(60, 999999, 0), 120);
        for (int wrong : new int[] {-1, 61, Integer.MAX_VALUE, Integer.MIN_VALUE}) {
            D.due(32, "no weeks", x.drawn(wrong, 1, 0), Dues.BAD);
        }
        for (int wrong : new int[] {0, 1000000, -1, Integer.MAX_VALUE, Integer.MIN_VALUE}) {
            D.due(32, "no seed", x.drawn(1, wrong, 0), Dues.BAD);
        }
        for (int wrong : new int[] {-1, 2, Integer.MAX_VALUE, Integer.MIN_VALUE}) {
            D.due(32, "no what", x.drawn(1, 1, wrong), Dues.BAD);
        }
    }

    /** Three turners of whom the first alone turns, from week 1 on: two weeks more and he does. */
    private static void turnersOfLaterWeeksTurn() {
        KitchenWheels x = Dues.told("na;jabc;s1;s0;s0;");
        x.weeks(1);
        D.due(18, "behind 2", x.hasJobs(0, 2), 2);
        D.due(18, "behind 3", x.hasJobs(0, 3), 4);
        D.due(20, "in 3", x.often(0, 1, 3), 3);
        D.due(20, "in 4", x.often(0, 1, 4), 3);
        D.due(21, "first", x.meets(0, 2), 3);
        D.due(22, "in 7", x.allMet(), 7);
        likely(x, 1, 2, 5, 1, 1);
        likely(x, 1, 3, 5, 1, 2);
        KitchenWheels y = Dues.told("nabc;jaab;s1;s0;s0;");
        y.weeks(1);
        D.due(30, "in 3", y.pairs(3), 1);
        D.due(30, "in 4", y.pairs(4), 2);
        KitchenWheels z = Dues.told("na;jaz;s1;s0;s0;");
        z.weeks(1);
        D.due(32, "in 3", z.drawn(3, 1, 0), 0);
        D.due(32, "in 4", z.drawn(4, 1, 0), 1);
        KitchenWheels w = Dues.told("nbz;jazz;s1;s0;s0;");
        w.weeks(1);
        D.due(27, "both do three", w.twice(), 0);
    }

    private static void nothingChanges() {
        KitchenWheels x = Dues.told("nabz;jabcz;l1;r3;");
        x.weeks(1);
        x.leave(1);
        Dues.lay(x, 0, 1, 2, 3);
        x.hasJobs(0, 9);
        x.whoDoes(0, 9);
        x.often(0, 0, 9);
        x.meets(0, 0);
        x.allMet();
        x.round();
        x.fairest(9, 0);
        x.owed(0);
        x.right(0, 3, 9, 0);
        x.twice();
        x.seen(0, 0, 0, 3);
        x.who(0, 0, 0, 3);
        x.pairs(9);
        x.forgets(0, 0, 8, 3, 0);
        x.drawn(9, 9, 0);
        D.due(18, "WEEK", x.count(4), 1);
        D.due(18, "DONE", x.count(5), 2);
        D.due(18, "ACTS", x.count(6), 2);
        D.due(18, "TURNED", x.drawn(0, 1, 1), 1);
        D.due(18, "away", x.leave(1), Dues.STATE);
        D.due(26, "name", x.slot(0, 0), 0);
        D.due(27, "empty slot", x.slot(2, 0), 6);
        D.due(29, "kind", x.kind(0), 4);
    }

    private static void allIsRefusedWithoutKitchen() {
        KitchenWheels x = new KitchenWheels();
        D.due(18, "hasJobs", x.hasJobs(9, 99), Dues.STATE);
        D.due(19, "whoDoes", x.whoDoes(9, 99), Dues.STATE);
        D.due(20, "often", x.often(9, 9, 99), Dues.STATE);
        D.due(21, "meets", x.meets(9, 9), Dues.STATE);
        D.due(22, "allMet", x.allMet(), Dues.STATE);
        D.due(23, "round", x.round(), Dues.STATE);
        D.due(24, "fairest", x.fairest(0, 9), Dues.STATE);
        D.due(26, "right", x.right(9, 9, 99, 9), Dues.STATE);
        D.due(27, "twice", x.twice(), Dues.STATE);
        D.due(30, "pairs", x.pairs(0), Dues.STATE);
        D.due(31, "forgets", x.forgets(9, 9, 9, 99, 9), Dues.STATE);
        D.due(32, "drawn", x.drawn(99, 0, 9), Dues.STATE);
    }
}
