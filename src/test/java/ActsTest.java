/** Promises 9 to 17, 25, 33, 34 and 39: what is done, undone and kept. */
public final class ActsTest {
    private static final Dues D = new Dues();

    public static void main(String[] args) {
        weeksPass();
        turnersTurn();
        turnersTurnInTurn();
        jobsOfThoseAwayAreDone();
        weeksAreRefused();
        peopleLeave();
        namesChange();
        jobsChange();
        wheelsAreTurned();
        doneIsTold();
        slotsAreTold();
        turnersAreTold();
        owedIsTold();
        actsAreUndone();
        twentyFourActsAreKept();
        imagesAreKept();
        imagesAreRefused();
        countsAreTold();
        D.end("ActsTest");
    }

    private static void weeksPass() {
        KitchenWheels x = Dues.told("nab;jabc;s2;");
        D.due(10, "weeks(1)", x.weeks(1), 2);
        D.due(10, "a did a", x.done(0, 0), 1);
        D.due(10, "b did b", x.done(1, 1), 1);
        D.due(10, "in all", x.count(5), 2);
        D.due(10, "WEEK", x.count(4), 1);
        D.due(10, "weeks(1)", x.weeks(1), 1);
        D.due(10, "a did c", x.done(0, 2), 1);
        D.due(10, "b did a", x.done(1, 0), 1);
        D.due(10, "weeks(2)", x.weeks(2), 2);
        D.due(10, "in all", x.count(5), 8);
        D.due(10, "WEEK", x.count(4), 4);
        D.due(10, "an act each", x.count(6), 4);
        KitchenWheels more = Dues.told("nabc;jab;o0;");
        more.weeks(1);
        D.due(10, "a did a", more.done(0, 0), 1);
        D.due(10, "c did a, too", more.done(2, 0), 1);
        D.due(10, "b did b", more.done(1, 1), 1);
        KitchenWheels none = Dues.told("nzb;jaz;s0;");
        none.weeks(3);
        D.due(10, "an empty slot's and nobody's job", none.count(5), 0);
        KitchenWheels same = Dues.told("naa;jbb;s0;");
        same.weeks(1);
        D.due(10, "a did b in two slots", same.done(0, 1), 2);
    }

    private static void turnsTo(String sort, int... turned) {
        KitchenWheels x = Dues.told("na;jabcdefzz;" + sort + ";");
        for (int i = 0; i < turned.length; i++) {
            D.due(10, sort + " in week " + i, x.weeks(1), turned[i]);
        }
    }

    private static void turnersTurn() {
        turnsTo("o5", 1, 2, 3, 4, 5, 6, 7, 0, 1);
        turnsTo("s5", 5, 2, 7, 4);
        turnsTo("s0", 0, 0, 0);
        turnsTo("b5", 6, 3, 1, 6, 4);
        turnsTo("l5", 5, 3, 2, 2, 3);
        turnsTo("r5", 3, 1, 0, 0, 1, 3, 0, 4);
    }

    private static void turnersTurnInTurn() {
        KitchenWheels x = Dues.told("na;jabcdefzz;s1;s3;o9;");
        int[] turned = {1, 4, 5, 6, 1, 2, 3};
        for (int want : turned) {
            D.due(10, "turner by turner", x.weeks(1), want);
        }
        KitchenWheels y = Dues.told("na;jabcdefzz;s1;l2;");
        D.due(10, "s1, then a law in week 1", y.weeks(2), 4);
        D.due(10, "s1, then a law in week 3", y.weeks(2), 2);
    }

    private static void jobsOfThoseAwayAreDone() {
        KitchenWheels x = Dues.told("nabc;jabc;s0;");
        x.leave(1);
        x.weeks(1);
        D.due(10, "b's job by c", x.done(2, 1), 1);
        D.due(10, "c's own", x.done(2, 2), 1);
        D.due(10, "b did none", x.done(1, 1), 0);
        D.due(10, "nobody is away any more", x.leave(1), 2);
        x.undo();
        x.leave(2);
        x.weeks(1);
        D.due(10, "behind the last the first", x.done(0, 2), 1);
        x.leave(0);
        x.leave(2);
        x.leave(1);
        D.due(10, "all away", x.weeks(1), 0);
        D.due(10, "none did it", x.count(5), 6);
        KitchenWheels y = Dues.told("nazab;jabcd;s0;");
        y.leave(0);
        y.weeks(1);
        D.due(10, "a's jobs by the next who is not away", y.done(1, 0), 1);
        D.due(10, "a's second job, too", y.done(1, 2), 1);
        D.due(10, "the empty slot's by none", y.count(5), 3);
        KitchenWheels z = Dues.told("nab;jza;s0;");
        z.leave(0);
        z.weeks(1);
        D.due(10, "nobody's job is not done for him", z.count(5), 1);
        KitchenWheels w = Dues.told("nab;jab;s0;");
        w.leave(5);
        w.weeks(1);
        D.due(10, "one away who is not on it", w.count(5), 2);
    }

    private static void weeksAreRefused() {
        KitchenWheels x = new KitchenWheels();
        D.due(10, "no kitchen", x.weeks(1), Dues.STATE);
        D.due(10, "no kitchen ahead of BAD", x.weeks(0), Dues.STATE);
        Dues.tell(x, "na;ja;o1;");
        for (int wrong : new int[] {0, 25, -1, Integer.MAX_VALUE, Integer.MIN_VALUE}) {
            D.due(10, "weeks(" + wrong + ")", x.weeks(wrong), Dues.BAD);
        }
        for (int i = 0; i < 41; i++) {
            D.due(10, "weeks(24)", x.weeks(24), 0);
        }
        D.due(10, "up to 1000", x.weeks(16), Dues.FULL);
        D.due(10, "BAD ahead of FULL", x.weeks(25), Dues.BAD);
        D.due(10, "nothing changed", x.count(4), 984);
        D.due(10, "up to 999", x.weeks(15), 0);
        D.due(10, "WEEK", x.count(4), 999);
        D.due(10, "full", x.weeks(1), Dues.FULL);
        D.due(10, "other acts go on", x.turn(1), 0);
        D.due(10, "what is foretold goes on", x.often(0, 0, 60), 60);
    }

    private static void peopleLeave() {
        KitchenWheels x = new KitchenWheels();
        D.due(11, "no kitchen", x.leave(0), Dues.STATE);
        D.due(11, "no kitchen ahead of BAD", x.leave(6), Dues.STATE);
        Dues.tell(x, "nab;jab;o1;");
        D.due(11, "leave(-1)", x.leave(-1), Dues.BAD);
        D.due(11, "leave(6)", x.leave(6), Dues.BAD);
        D.due(11, "leave(1)", x.leave(1), 2);
        D.due(11, "leave(1) again", x.leave(1), Dues.STATE);
        D.due(11, "not an act", x.count(6), 1);
        D.due(11, "leave(5)", x.leave(5), 34);
        D.due(11, "leave(0)", x.leave(0), 35);
        x.weeks(1);
        D.due(11, "in the next week", x.leave(0), 1);
    }

    private static void namesChange() {
        KitchenWheels x = new KitchenWheels();
        D.due(12, "no kitchen", x.name(0, 0), Dues.STATE);
        D.due(12, "no kitchen ahead of BAD", x.name(9, 9), Dues.STATE);
        Dues.tell(x, "nabz;jabcde;o1;");
        for (int wrong : new int[] {-1, 3, 7, 8, Integer.MAX_VALUE, Integer.MIN_VALUE}) {
            D.due(12, "name(" + wrong + ", 0)", x.name(wrong, 0), Dues.BAD);
        }
        for (int wrong : new int[] {-1, 7, Integer.MAX_VALUE, Integer.MIN_VALUE}) {
            D.due(12, "name(0, " + wrong + ")", x.name(0, wrong), Dues.BAD);
        }
        D.due(12, "no act", x.count(6), 0);
        D.due(12, "name(0, 5)", x.name(0, 5), 0);
        D.due(12, "name(2, 1)", x.name(2, 1), 6);
        D.due(12, "name(1, 6)", x.name(1, 6), 1);
        D.due(12, "slot 0", x.slot(0, 0), 5);
        D.due(12, "slot 1", x.slot(1, 0), 6);
        D.due(12, "slot 2", x.slot(2, 0), 1);
        D.due(12, "acts", x.count(6), 3);
        D.due(12, "slots", x.count(1), 3);
        D.due(12, "name(2, 0)", x.name(2, 0), 1);
        D.due(12, "the same name", x.name(2, 0), 0);
        D.due(12, "acts", x.count(6), 5);
        x.undo();
        x.undo();
        x.weeks(1);
        D.due(12, "f did a", x.done(5, 0), 1);
        D.due(12, "b did c", x.done(1, 2), 1);
        D.due(12, "no more", x.count(5), 2);
    }

    private static void jobsChange() {
        KitchenWheels x = new KitchenWheels();
        D.due(13, "no kitchen", x.job(0, 0), Dues.STATE);
        D.due(13, "no kitchen ahead of BAD", x.job(9, 9), Dues.STATE);
        Dues.tell(x, "nabcde;jabz;s0;");
        for (int wrong : new int[] {-1, 3, 7, 8, Integer.MAX_VALUE, Integer.MIN_VALUE}) {
            D.due(13, "job(" + wrong + ", 0)", x.job(wrong, 0), Dues.BAD);
        }
        for (int wrong : new int[] {-1, 7, Integer.MAX_VALUE, Integer.MIN_VALUE}) {
            D.due(13, "job(0, " + wrong + ")", x.job(0, wrong), Dues.BAD);
        }
        D.due(13, "no act", x.count(6), 0);
        D.due(13, "job(0, 6)", x.job(0, 6), 0);
        D.due(13, "job(2, 4)", x.job(2, 4), 6);
        D.due(13, "slot 0", x.slot(0, 1), 6);
        D.due(13, "slot 2", x.slot(2, 1), 4);
        D.due(13, "acts", x.count(6), 2);
        D.due(13, "job(2, 0)", x.job(2, 0), 4);
        D.due(13, "the same job", x.job(2, 0), 0);
        D.due(13, "acts", x.count(6), 4);
        x.undo();
        x.undo();
        x.weeks(1);
        D.due(13, "c did e", x.done(2, 4), 1);
        D.due(13, "b did b", x.done(1, 1), 1);
        D.due(13, "in all", x.count(5), 3);
    }

    private static void wheelsAreTurned() {
        KitchenWheels x = new KitchenWheels();
        D.due(14, "no kitchen", x.turn(1), Dues.STATE);
        D.due(14, "no kitchen ahead of BAD", x.turn(0), Dues.STATE);
        Dues.tell(x, "na;jabcde;s0;");
        for (int wrong : new int[] {0, 9, -1, Integer.MAX_VALUE, Integer.MIN_VALUE}) {
            D.due(14, "turn(" + wrong + ")", x.turn(wrong), Dues.BAD);
        }
        D.due(14, "turn(1)", x.turn(1), 1);
        D.due(14, "turn(8)", x.turn(8), 4);
        D.due(14, "turn(5)", x.turn(5), 4);
        D.due(14, "WEEK stays", x.count(4), 0);
        D.due(14, "acts", x.count(6), 3);
        x.weeks(1);
        D.due(14, "a did e", x.done(0, 4), 1);
    }

    private static void doneIsTold() {
        KitchenWheels x = new KitchenWheels();
        D.due(15, "no kitchen", x.done(0, 0), Dues.STATE);
        D.due(15, "no kitchen ahead of BAD", x.done(9, 9), Dues.STATE);
        Dues.tell(x, "nf;jf;s0;");
        D.due(15, "none yet", x.done(5, 5), 0);
        x.weeks(7);
        D.due(15, "done(5, 5)", x.done(5, 5), 7);
        D.due(15, "done(4, 5)", x.done(4, 5), 0);
        D.due(15, "done(5, 4)", x.done(5, 4), 0);
        for (int wrong : new int[] {-1, 6, Integer.MAX_VALUE, Integer.MIN_VALUE}) {
            D.due(15, "no person", x.done(wrong, 0), Dues.BAD);
            D.due(15, "no job", x.done(0, wrong), Dues.BAD);
        }
    }

    private static void slotsAreTold() {
        KitchenWheels x = new KitchenWheels();
        D.due(16, "no kitchen", x.slot(0, 0), Dues.STATE);
        D.due(16, "no kitchen ahead of BAD", x.slot(9, 9), Dues.STATE);
        Dues.tell(x, "nazb;jcz;o1;");
        int[][] want = {{0, 2, 2}, {6, 6, 6}, {1, Dues.NONE, 2}, {Dues.NONE, Dues.NONE, Dues.NONE}};
        for (int slot = 0; slot < 4; slot++) {
            for (int what = 0; what < 3; what++) {
                D.due(16, "slot(" + slot + ", " + what + ")", x.slot(slot, what), want[slot][what]);
            }
        }
        D.due(16, "slot(7, 0)", x.slot(7, 0), Dues.NONE);
        x.turn(1);
        D.due(16, "nobody's", x.slot(0, 2), 6);
        D.due(16, "empty", x.slot(1, 2), 6);
        D.due(16, "nobody's", x.slot(2, 2), 6);
        x.turn(1);
        x.leave(0);
        D.due(16, "he has it, though away", x.slot(0, 2), 2);
        KitchenWheels y = Dues.told("na;jabc;o1;");
        D.due(16, "more jobs than names", y.slot(2, 1), 2);
        D.due(16, "no such name", y.slot(2, 0), Dues.NONE);
        D.due(16, "no such name", y.slot(2, 2), Dues.NONE);
        for (int wrong : new int[] {-1, 8, Integer.MAX_VALUE, Integer.MIN_VALUE}) {
            D.due(16, "no slot", x.slot(wrong, 0), Dues.BAD);
        }
        for (int wrong : new int[] {-1, 3, Integer.MAX_VALUE, Integer.MIN_VALUE}) {
            D.due(16, "no what", x.slot(0, wrong), Dues.BAD);
        }
    }

    private static void turnersAreTold() {
        KitchenWheels x = new KitchenWheels();
        D.due(17, "no kitchen", x.turner(0, 0), Dues.BAD);
        Dues.tell(x, "na;ja;o7;b2;l3;r4;");
        int[] by = {7, 2, 3, 4};
        int[][] far = {{1001, 1003, 1003, 996}, {1001, 1002, 1004, 1005}, {1001, 1003, 1005, 1006},
            {1001, 1002, 1006, 993}};
        for (int week = 0; week < 4; week++) {
            for (int turner = 0; turner < 4; turner++) {
                D.due(17, "by", x.turner(turner, 0), by[turner]);
                D.due(17, "how far " + turner + " in " + week, x.turner(turner, 1), far[week][turner]);
            }
            x.weeks(1);
        }
        Dues.tell(x, "na;ja;s8;");
        D.due(17, "a step", x.turner(0, 1), 1008);
        for (int wrong : new int[] {-1, 1, 4, Integer.MAX_VALUE, Integer.MIN_VALUE}) {
            D.due(17, "no turner", x.turner(wrong, 0), Dues.BAD);
        }
        for (int wrong : new int[] {-1, 2, Integer.MAX_VALUE, Integer.MIN_VALUE}) {
            D.due(17, "no what", x.turner(0, wrong), Dues.BAD);
        }
    }

    private static void owedIsTold() {
        KitchenWheels x = new KitchenWheels();
        D.due(25, "no kitchen", x.owed(0), Dues.STATE);
        D.due(25, "no kitchen ahead of BAD", x.owed(6), Dues.STATE);
        Dues.tell(x, "naab;jabz;s0;");
        D.due(25, "nothing yet", x.owed(5), 0);
        x.weeks(3);
        D.due(25, "a has done most", x.owed(0), 0);
        D.due(25, "b none", x.owed(1), 6);
        D.due(25, "c, who is not on it", x.owed(2), 6);
        x.name(0, 6);
        x.name(1, 1);
        x.weeks(2);
        D.due(25, "a is off and has most yet", x.owed(1), 4);
        D.due(25, "owed(-1)", x.owed(-1), Dues.BAD);
        D.due(25, "owed(6)", x.owed(6), Dues.BAD);
    }

    private static void actsAreUndone() {
        KitchenWheels x = new KitchenWheels();
        D.due(9, "no kitchen", x.undo(), Dues.STATE);
        Dues.tell(x, "nab;jab;s1;");
        D.due(9, "none", x.undo(), Dues.STATE);
        x.leave(0);
        x.weeks(2);
        x.name(0, 3);
        x.job(1, 4);
        x.turn(1);
        D.due(9, "acts", x.count(6), 6);
        D.due(9, "turn undone", x.undo(), 5);
        D.due(9, "TURNED", x.drawn(0, 1, 1), 0);
        D.due(9, "job undone", x.undo(), 4);
        D.due(9, "job", x.slot(1, 1), 1);
        D.due(9, "name is yet", x.slot(0, 0), 3);
        D.due(9, "name undone", x.undo(), 3);
        D.due(9, "name", x.slot(0, 0), 0);
        D.due(9, "week undone", x.undo(), 2);
        D.due(9, "WEEK", x.count(4), 1);
        D.due(9, "TURNED", x.drawn(0, 1, 1), 1);
        D.due(9, "DONE", x.count(5), 2);
        D.due(9, "b did a's", x.done(1, 0), 1);
        D.due(9, "week undone", x.undo(), 1);
        D.due(9, "DONE", x.count(5), 0);
        D.due(9, "he is away again", x.leave(0), Dues.STATE);
        D.due(9, "leave undone", x.undo(), 0);
        D.due(9, "he is there", x.hasJobs(0, 0), 1);
        D.due(9, "none", x.undo(), Dues.STATE);
        D.due(9, "anew", x.turn(1), 1);
        D.due(9, "undo()", x.undo(), 0);
        x.weeks(25);
        x.leave(7);
        x.name(8, 0);
        D.due(9, "what is refused is no act", x.undo(), Dues.STATE);
    }

    private static void twentyFourActsAreKept() {
        KitchenWheels x = Dues.told("na;jabcdefzz;s1;");
        x.weeks(24);
        D.due(9, "24", x.count(6), 24);
        x.turn(3);
        x.name(0, 1);
        D.due(9, "24 of 26", x.count(6), 24);
        for (int left = 23; left >= 0; left--) {
            D.due(9, "undo()", x.undo(), left);
        }
        D.due(9, "no more", x.undo(), Dues.STATE);
        D.due(9, "two weeks are left", x.count(4), 2);
        D.due(9, "TURNED", x.drawn(0, 1, 1), 2);
        for (int i = 0; i < 100; i++) {
            x.turn(1);
        }
        D.due(9, "24 of 100", x.count(6), 24);
        for (int i = 0; i < 10; i++) {
            x.undo();
        }
        x.turn(2);
        D.due(9, "15", x.count(6), 15);
        x.undo();
        D.due(9, "TURNED", x.drawn(0, 1, 1), (2 + 90) % 8);
    }

    private static void imagesAreKept() {
        KitchenWheels x = Dues.told("nab;jab;s1;l2;");
        x.weeks(3);
        x.leave(1);
        D.due(33, "image(0)", x.image(0), 1);
        D.due(33, "no act", x.count(6), 4);
        Dues.tell(x, "nc;jc;o1;");
        D.due(33, "image(1)", x.image(1), 1);
        x.weeks(2);
        D.due(34, "restore(0)", x.restore(0), 1);
        D.due(34, "WEEK", x.count(4), 3);
        D.due(34, "DONE", x.count(5), 6);
        D.due(34, "names", x.count(1), 2);
        D.due(34, "jobs", x.count(2), 2);
        D.due(34, "turners", x.count(3), 2);
        D.due(34, "kind", x.kind(1), 4);
        D.due(34, "by", x.turner(1, 0), 2);
        D.due(34, "TURNED", x.drawn(0, 1, 1), 1);
        D.due(34, "away", x.leave(1), Dues.STATE);
        D.due(34, "name", x.slot(1, 0), 1);
        D.due(34, "no act can be undone", x.undo(), Dues.STATE);
        D.due(34, "none", x.count(6), 0);
        x.name(0, 5);
        x.job(0, 5);
        x.weeks(1);
        D.due(34, "the image stays as it was", x.restore(0), 1);
        D.due(34, "name", x.slot(0, 0), 0);
        D.due(34, "job", x.slot(0, 1), 0);
        D.due(34, "restore(1)", x.restore(1), 1);
        D.due(34, "the other", x.slot(0, 0), 2);
        D.due(34, "WEEK", x.count(4), 0);
        x.turn(1);
        D.due(33, "image(0) anew", x.image(0), 1);
        x.restore(0);
        D.due(33, "the newer one", x.count(1), 1);
    }

    private static void imagesAreRefused() {
        KitchenWheels x = new KitchenWheels();
        for (int wrong : new int[] {-1, 2, Integer.MAX_VALUE, Integer.MIN_VALUE}) {
            D.due(33, "BAD ahead of STATE", x.image(wrong), Dues.BAD);
            D.due(34, "BAD ahead of STATE", x.restore(wrong), Dues.BAD);
        }
        D.due(33, "no kitchen", x.image(0), Dues.STATE);
        D.due(34, "none", x.restore(0), Dues.STATE);
        Dues.tell(x, "na;ja;o1;");
        x.image(1);
        x.turn(1);
        D.due(34, "none kept there", x.restore(0), Dues.STATE);
        D.due(34, "nothing changed", x.count(6), 1);
        D.due(34, "kept there", x.restore(1), 1);
    }

    private static void countsAreTold() {
        KitchenWheels x = Dues.told("nabcde;jabcdefz;o1;s1;");
        x.row(0, 0, 1);
        x.row(4, 0, 1);
        x.weeks(2);
        x.turn(1);
        x.feed('n');
        int[] want = {2, 5, 7, 2, 2, 10, 3, 1};
        for (int what = 0; what < 8; what++) {
            D.due(39, "count(" + what + ")", x.count(what), want[what]);
        }
        for (int wrong : new int[] {-1, 8, Integer.MAX_VALUE, Integer.MIN_VALUE}) {
            D.due(39, "count(" + wrong + ")", x.count(wrong), Dues.BAD);
        }
    }
}
