/** Part 3 and promises 24 to 27: what is fairest, who is owed what, and what puts it right. */
final class FairClauses {
    static void test(Clauses c) {
        fairest(c);
        refusedFairest(c);
        owed(c);
        right(c);
        refusedRight(c);
        twice(c);
    }

    private static void fair(Clauses c, String what, KitchenWheels x, int weeks, int difference, int by) {
        c.due(what + ", the difference", x.fairest(weeks, 0), difference);
        c.due(what + ", b", x.fairest(weeks, 1), by);
    }

    private static void fairest(Clauses c) {
        c.term("FAIREST for n WEEKS (1 to 60):");
        KitchenWheels one = Dues.told("naab;ja;l7;");
        fair(c, "in 1", one, 1, 1, 1);
        fair(c, "in 59", one, 59, 59, 1);
        fair(c, "in 60", one, 60, 60, 1);
        c.term("were it turned by b (1 to 8) each WEEK,");
        // a does in each TURNED but 0 more or less jobs than b, so that only all around is fair
        KitchenWheels around = Dues.told("naab;jazazzazz;o1;");
        fair(c, "by 8", around, 2, 0, 8);
        fair(c, "by 1", Dues.told("nab;jaz;s0;"), 2, 0, 1);
        fair(c, "by 2", Dues.told("nab;jazza;l7;"), 2, 0, 2);
        // of 3 SLOTS one turn back is two turns on
        fair(c, "not back", Dues.told("nab;jazz;o1;"), 2, 0, 2);
        c.term("from as it is now on,");
        KitchenWheels now = Dues.told("nab;jazzzzzzz;o1;");
        fair(c, "a does the first", now, 1, 1, 1);
        now.turn(7);
        fair(c, "b does the first", now, 1, 1, 1);
        fair(c, "b, then a", now, 2, 0, 1);
        now.turn(7);
        fair(c, "neither does the first", now, 1, 0, 1);
        fair(c, "neither does the second", now, 2, 0, 3);
        c.term("and nobody away:");
        KitchenWheels away = Dues.told("nab;jab;s0;");
        away.leave(0);
        fair(c, "a does his own", away, 1, 0, 1);
        c.term("the least difference between how many jobs who does most and who does least do in them,");
        fair(c, "two and one and none", Dues.told("naabc;jaaaz;s0;"), 1, 2, 1);
        fair(c, "one job of two", Dues.told("nab;jaz;o1;"), 3, 1, 1);
        c.term("of those who are on the wheel;");
        fair(c, "a alone", Dues.told("na;ja;s0;"), 60, 0, 1);
        fair(c, "empty SLOTS aside", Dues.told("nazb;jaab;s0;"), 9, 0, 1);
        c.term("b, of several the first.");
        fair(c, "by all", Dues.told("nab;jab;s0;"), 60, 0, 1);
        // neither is fair by 1; by 2 and by 6 both are
        fair(c, "by 2 and by 6", Dues.told("nab;jazza;s0;"), 2, 0, 2);
        c.of(24, "FAIREST: the difference (what = 0),");
        c.due("the difference", around.fairest(1, 0), 0);
        c.due("the difference", one.fairest(7, 0), 7);
        c.of(24, "b (1);");
        c.due("b", around.fairest(2, 1), 8);
        c.of(24, "0 and 1: nobody is on it.");
        fair(c, "empty SLOTS alone", Dues.told("nzz;jab;o1;"), 1, 0, 1);
        fair(c, "empty SLOTS alone", Dues.told("nzz;jab;o1;"), 60, 0, 1);
    }

    private static void refusedFairest(Clauses c) {
        KitchenWheels x = Dues.told("nab;jab;s0;");
        c.of(24, "BAD;");
        c.bad("fairest(?, 0)", n -> x.fairest(n, 0), 1, 60);
        c.bad("fairest(1, ?)", what -> x.fairest(1, what), 0, 1);
        c.of(24, "STATE: no KITCHEN (ahead of BAD).");
        KitchenWheels none = new KitchenWheels();
        c.same("fairest(?, 0)", n -> none.fairest(n, 0), Dues.STATE, 1, 60, 0, 61);
        c.same("fairest(1, ?)", what -> none.fairest(1, what), Dues.STATE, 0, 2, -1);
    }

    private static void owed(Clauses c) {
        c.term("OWED to one: by how much less he has DONE, of all jobs, than who of all PEOPLE has DONE most.");
        KitchenWheels x = Dues.told("naab;jabz;s0;");
        c.same("nothing is DONE", person -> x.owed(person), 0, 0, 1, 5);
        x.weeks(3);
        c.due("who has DONE most", x.owed(0), 0);
        c.due("one who has DONE none", x.owed(1), 6);
        c.due("one who is not on it", x.owed(5), 6);
        x.name(0, 6);
        x.name(1, 1);
        x.weeks(1);
        c.due("who has DONE most is off it", x.owed(0), 0);
        c.due("one less", x.owed(1), 5);
        x.weeks(6);
        c.due("another has DONE most", x.owed(0), 1);
        c.due("he", x.owed(1), 0);
        KitchenWheels last = Dues.told("nf;jf;s0;");
        last.weeks(2);
        c.due("the last has DONE most", last.owed(5), 0);
        c.due("the first none", last.owed(0), 2);
        c.of(25, "OWED.");
        c.due("owed(4)", last.owed(4), 2);
        c.of(25, "BAD;");
        c.bad("owed(?)", person -> x.owed(person), 0, 5);
        c.of(25, "STATE: no KITCHEN (ahead of BAD).");
        KitchenWheels none = new KitchenWheels();
        c.same("owed(?)", person -> none.owed(person), Dues.STATE, 0, 5, 6, -1);
    }

    private static void swap(Clauses c, KitchenWheels x, int person, int job, int weeks, int times, int slots) {
        String call = "right(" + person + ", " + job + ", " + weeks + ", ";
        c.due(call + "0)", x.right(person, job, weeks, 0), times);
        c.due(call + "1)", x.right(person, job, weeks, 1), slots);
    }

    private static void right(Clauses c) {
        KitchenWheels x = Dues.told("nabc;jabc;o1;");
        c.term("RIGHT for m WEEKS (0 to 60):");
        swap(c, x, 0, 0, 0, 0, Dues.NONE);
        swap(c, x, 0, 2, 59, 0, Dues.NONE);
        swap(c, x, 0, 0, 60, 0, Dues.NONE);
        swap(c, x, 1, 0, 60, 1, 1);
        c.term("how many times two SLOTS are to change their names now, so that one told does a told job "
            + "behind m WEEKS: 0, 1;");
        swap(c, x, 1, 1, 0, 0, Dues.NONE);
        swap(c, x, 1, 1, 1, 1, 1);
        swap(c, x, 2, 0, 1, 0, Dues.NONE);
        c.term("which SLOTS (10 times the lesser, and the greater;");
        swap(c, x, 2, 1, 0, 1, 12);
        swap(c, x, 1, 2, 0, 1, 12);
        KitchenWheels wide = Dues.told("nzzzzzzab;jazzzzzzz;s0;");
        wide.turn(1);
        // job 0 is had by SLOT 7 alone
        swap(c, wide, 0, 0, 0, 1, 67);
        swap(c, wide, 1, 0, 0, 0, Dues.NONE);
        wide.turn(7);
        swap(c, wide, 1, 0, 0, 1, 7);
        c.term("NONE: none need),");
        swap(c, x, 2, 2, 0, 0, Dues.NONE);
        c.term("of several the first;");
        KitchenWheels several = Dues.told("nabab;jcdcd;s0;");
        swap(c, several, 0, 3, 0, 1, 1);
        swap(c, several, 1, 2, 0, 1, 1);
        KitchenWheels empty = Dues.told("nzzaz;jffzf;s0;");
        swap(c, empty, 0, 5, 0, 1, 2);
        c.term("NONE: not by 1.");
        swap(c, x, 5, 0, 0, Dues.NONE, Dues.NONE);
        swap(c, x, 0, 5, 0, Dues.NONE, Dues.NONE);
        swap(c, Dues.told("na;jab;s0;"), 0, 1, 0, Dues.NONE, Dues.NONE);
        KitchenWheels fewer = Dues.told("nbacdefab;ja;s0;");
        Dues.tell(fewer, "nb;ja;s0;");
        // a's name stood behind b's in the KITCHEN before
        swap(c, fewer, 0, 0, 0, Dues.NONE, Dues.NONE);
        KitchenWheels away = Dues.told("nabc;jabc;s0;");
        away.leave(0);
        swap(c, away, 0, 0, 0, Dues.NONE, Dues.NONE);
        swap(c, away, 2, 0, 0, 1, 2);
        swap(c, away, 0, 0, 1, 0, Dues.NONE);
    }

    private static void refusedRight(Clauses c) {
        KitchenWheels x = Dues.told("nabc;jabc;o1;");
        c.of(26, "RIGHT: how many (what = 0),");
        c.due("how many", x.right(0, 1, 0, 0), 1);
        c.of(26, "which (1);");
        c.due("which", x.right(0, 1, 0, 1), 1);
        c.of(26, "NONE.");
        c.due("how many", x.right(3, 1, 0, 0), Dues.NONE);
        c.due("which", x.right(3, 1, 0, 1), Dues.NONE);
        c.of(26, "BAD;");
        c.bad("right(?, 0, 0, 0)", person -> x.right(person, 0, 0, 0), 0, 5);
        c.bad("right(0, ?, 0, 0)", job -> x.right(0, job, 0, 0), 0, 5);
        c.bad("right(0, 0, ?, 0)", m -> x.right(0, 0, m, 0), 0, 60);
        c.bad("right(0, 0, 0, ?)", what -> x.right(0, 0, 0, what), 0, 1);
        c.of(26, "STATE: no KITCHEN (ahead of BAD).");
        KitchenWheels none = new KitchenWheels();
        c.same("right(?, 0, 0, 0)", person -> none.right(person, 0, 0, 0), Dues.STATE, 0, 6);
        c.same("right(0, ?, 0, 0)", job -> none.right(0, job, 0, 0), Dues.STATE, 0, 6);
        c.same("right(0, 0, ?, 0)", m -> none.right(0, 0, m, 0), Dues.STATE, 0, 61);
        c.same("right(0, 0, 0, ?)", what -> none.right(0, 0, 0, what), Dues.STATE, 0, 2);
    }

    private static void twice(Clauses c) {
        c.term("TWICE: the name that, written into the first empty SLOT now,");
        // in SLOT 1 a name has nobody's job, in SLOT 2 one that b has, too
        c.due("the first of two", Dues.told("nbzz;jaza;s0;").twice(), 1);
        c.due("the first of all", Dues.told("nzb;jza;s0;").twice(), 1);
        c.due("the last of eight", Dues.told("nabcdefaz;jf;s0;").twice(), 1);
        c.term("makes the difference of how many jobs are done in the next 12 WEEKS");
        // by turns b and the name do one job: by a or b alike in 12 WEEKS, not in 11 or 13
        c.due("in 12", Dues.told("nbz;jaz;o1;").twice(), 0);
        c.due("f is needed", Dues.told("nabcdez;jaaaaaa;s0;").twice(), 5);
        c.due("a name, though none would be fairer", Dues.told("nabcdefz;jf;s0;").twice(), 0);
        c.term("(as for FAIREST, but as it is turned, who is away now being so)");
        // it is never turned, so that a name but b would do nothing
        c.due("as it is turned", Dues.told("nbz;jaz;s0;").twice(), 1);
        // from WEEK 1 on neither SLOT has the job for three WEEKS, then the name's for three, then b's for three
        KitchenWheels third = Dues.told("nbz;jazz;s1;s0;s0;");
        third.weeks(1);
        c.due("as it is turned in later WEEKS", third.twice(), 0);
        KitchenWheels away = Dues.told("nzab;jaaa;s0;");
        c.due("c is there", away.twice(), 2);
        away.leave(2);
        c.due("c is away", away.twice(), 3);
        c.term("least, of several the first;");
        c.due("of all six", Dues.told("nz;ja;s0;").twice(), 0);
        c.due("of c to f", Dues.told("nabz;jaaa;s0;").twice(), 2);
        c.term("NONE: no empty SLOT.");
        c.due("none of one", Dues.told("na;ja;s0;").twice(), Dues.NONE);
        c.due("none of eight", Dues.told("nabcdefab;ja;s0;").twice(), Dues.NONE);
        c.of(27, "TWICE;");
        c.due("twice()", Dues.told("nza;jab;s0;").twice(), 0);
        c.of(27, "NONE.");
        KitchenWheels x = Dues.told("nz;ja;s0;");
        x.name(0, 3);
        c.due("no longer empty", x.twice(), Dues.NONE);
        x.undo();
        c.due("empty again", x.twice(), 0);
        c.of(27, "STATE: no KITCHEN.");
        c.due("twice()", new KitchenWheels().twice(), Dues.STATE);
    }
}
