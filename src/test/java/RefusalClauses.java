import java.util.ArrayList;
import java.util.List;
import java.util.function.ToLongFunction;

/** The terms ahead of part 1: how calls are refused, and that a refused one changes nothing. */
final class RefusalClauses {
    private static final int MIN = Integer.MIN_VALUE, MAX = Integer.MAX_VALUE;

    static void test(Clauses c) {
        use(c);
        numbers(c);
        orderOfRefusals(c);
        findings(c);
        nothingChanges(c);
    }

    private static void use(Clauses c) {
        c.of(Clauses.USE, "An object is used for at most 512 calls after it has been made;");
        KitchenWheels x = Dues.told("na;jabcdefzz;s0;");
        // 16 bytes and kitchen() were 17 calls
        for (int call = 18; call <= 511; call++) {
            c.due("call " + call, x.turn(1), (call - 17) % 8);
        }
        c.due("call 512", x.count(6), 24);
        c.of(Clauses.USE, "what later calls answer is free.");
        x.undo();
        c.due("a later call ends", 1, 1);
    }

    private static void numbers(Clauses c) {
        c.term("Numbers go from 0 on.");
        KitchenWheels x = Dues.told("na;ja;o1;");
        c.due("row(0, 0, 1)", x.row(0, 0, 1), 1);
        c.due("row(-1, 0, 1)", x.row(-1, 0, 1), Dues.BAD);
        c.due("set(0, 0, 5)", x.set(0, 0, 5), 5);
        c.due("set(0, -1, 5)", x.set(0, -1, 5), Dues.PLACE);
        c.due("slot(0, 0)", x.slot(0, 0), 0);
        c.due("slot(-1, 0)", x.slot(-1, 0), Dues.BAD);
        c.due("turner(0, 0)", x.turner(0, 0), 1);
        c.due("turner(-1, 0)", x.turner(-1, 0), Dues.BAD);
        c.due("count(4): the first WEEK", x.count(4), 0);
        x.ask(0, 1);
        c.due("trace(0)", x.trace(0), 21);
        c.due("trace(-1)", x.trace(-1), Dues.NONE);

        c.term("All that is divided is cut towards 0, but fractions, told as two numbers in lowest terms");
        KitchenWheels y = Dues.told("nab;jab;o1;");
        c.due("5 of 10, above", y.forgets(0, 0, 1, 5, 0), 1);
        c.due("5 of 10, below", y.forgets(0, 0, 1, 5, 1), 2);
        c.due("10 of 10, above", y.forgets(0, 0, 1, 10, 0), 1);
        c.due("10 of 10, below", y.forgets(0, 0, 1, 10, 1), 1);
        c.due("3 of 10, above", y.forgets(0, 0, 1, 3, 0), 3);
        c.due("3 of 10, below", y.forgets(0, 0, 1, 3, 1), 10);
        c.term("(0 is 0 by 1).");
        c.due("0 of 10, above", y.forgets(0, 0, 1, 0, 0), 0);
        c.due("0 of 10, below", y.forgets(0, 0, 1, 0, 1), 1);
        c.due("0 of 100000000, above", y.forgets(5, 0, 8, 5, 0), 0);
        c.due("0 of 100000000, below", y.forgets(5, 0, 8, 5, 1), 1);

        c.term("Sets are bits.");
        KitchenWheels z = Dues.told("nf;jf;o1;");
        c.due("the empty set", z.hasJobs(0, 0), 0);
        c.due("job 5 alone", z.hasJobs(5, 0), 32);
        c.due("PEOPLE 5 alone", z.whoDoes(5, 0), 32);
        c.due("PEOPLE 0 away", z.leave(0), 1);
        c.due("PEOPLE 0 and 5 away", z.leave(5), 33);
    }

    private static void orderOfRefusals(Clauses c) {
        c.term("Refusals are answers, the first of these that fits, but as told:");
        KitchenWheels none = new KitchenWheels();
        c.due("BAD ahead of STATE", none.image(2), Dues.BAD);
        c.due("BAD ahead of STATE", none.restore(-1), Dues.BAD);
        c.due("STATE ahead of NULL", none.seen(0, 0, 0, 1), Dues.STATE);
        c.due("as told: STATE ahead of BAD", none.seen(6, 8, 0, 13), Dues.STATE);
        c.due("BAD ahead of SIZE", none.row(8, 0, -1), Dues.BAD);
        c.due("BAD ahead of NULL", none.copy(0, 0, 8, 0, 0), Dues.BAD);
        for (int i = 0; i < 80; i++) {
            none.feed(0);
        }
        c.due("BAD ahead of FULL", none.feed(256), Dues.BAD);
        KitchenWheels x = Dues.told("na;ja;o1;");
        c.due("BAD ahead of NULL", x.who(0, 0, 0, 13), Dues.BAD);
        c.due("BAD ahead of NULL", x.seen(6, 0, 0, 1), Dues.BAD);

        c.term("BAD (a number is not as told; there is no such thing)");
        c.due("a number is not as told", x.turn(9), Dues.BAD);
        c.due("there is no such turner", x.turner(1, 0), Dues.BAD);
        c.term("STATE (as told)");
        c.due("nothing to undo", x.undo(), Dues.STATE);
        c.term("FULL (as told)");
        c.due("no byte more", none.feed(0), Dues.FULL);

        c.term("then FINDINGS, of several the first in time:");
        x.row(0, 0, 2);
        x.row(1, 1, 2);
        c.due("NULL ahead of PLACE", x.copy(0, -1, 2, 0, 1), Dues.NULL);
        c.due("NULL ahead of PLACE", x.copy(2, 0, 0, 3, 1), Dues.NULL);
        c.due("STORE ahead of PLACE", x.copy(0, -1, 1, 3, 9), Dues.STORE);
        c.due("NULL ahead of PLACE", x.seen(0, 2, -1, 1), Dues.NULL);
        c.due("NULL ahead of PLACE", x.who(0, 2, 41, 1), Dues.NULL);
        c.due("NULL ahead of PLACE", x.set(2, -1, 0), Dues.NULL);
    }

    private static void findings(Clauses c) {
        KitchenWheels x = Dues.told("na;ja;o1;");
        x.row(0, 0, 2);
        x.row(1, 1, 2);
        c.term("-1000010 less 1 NULL (a ROW that is missing)");
        c.due("drop(2)", x.drop(2), -1000011);
        c.due("status()", x.status(), 1);
        c.term("2 PLACE (no such place of a ROW)");
        c.due("set(0, 2, 0)", x.set(0, 2, 0), -1000012);
        c.due("status()", x.status(), 2);
        c.term("3 KIND (a TURNER that is not that)");
        c.due("as(0, 2)", x.as(0, 2), -1000013);
        c.due("status()", x.status(), 3);
        c.term("4 SIZE (fewer than none)");
        c.due("row(0, 0, -1)", x.row(0, 0, -1), -1000014);
        c.due("status()", x.status(), 4);
        c.due("none is not fewer", x.row(2, 0, 0), 0);
        c.due("status()", x.status(), 0);
        c.term("5 STORE (ROWS of two LANES)");
        c.due("copy(0, 0, 1, 0, 1)", x.copy(0, 0, 1, 0, 1), -1000015);
        c.due("status()", x.status(), 5);
    }

    private static void nothingChanges(Clauses c) {
        c.term("What is refused, or found, changes nothing but status().");
        for (ToLongFunction<KitchenWheels> call : refusedAlways()) {
            leavesAll(c, busy(), busy(), call);
            leavesAll(c, bare(), bare(), call);
        }
        for (ToLongFunction<KitchenWheels> call : refusedInKitchens()) {
            leavesAll(c, busy(), busy(), call);
        }
        for (ToLongFunction<KitchenWheels> call : refusedWithoutKitchen()) {
            leavesAll(c, bare(), bare(), call);
        }
        leavesAll(c, fullTape(), fullTape(), x -> x.feed('n'));
        leavesAll(c, lastWeek(), lastWeek(), x -> x.weeks(1));
        leavesAll(c, lastWeek(), lastWeek(), x -> x.weeks(24));
    }

    private static void leavesAll(Clauses c, KitchenWheels x, KitchenWheels twin, ToLongFunction<KitchenWheels> call) {
        long answer = call.applyAsLong(x);
        c.due("refused, or found", answer <= Dues.BAD && answer >= Dues.STORE ? 1 : 0, 1);
        List<Long> got = sight(x);
        List<Long> want = sight(twin);
        c.due("so many answers", got.size(), want.size());
        for (int i = 0; i < want.size() && i < got.size(); i++) {
            c.due("answer " + i + " behind " + answer, got.get(i), want.get(i));
        }
    }

    /** Something of everything. */
    private static KitchenWheels busy() {
        KitchenWheels x = new KitchenWheels();
        Dues.tell(x, "na;ja;o10;");
        Dues.tell(x, "nabz;jabcz;s1;r3;");
        x.row(0, 0, 3);
        x.row(1, 1, 2);
        x.set(0, 0, 1);
        x.set(0, 2, 3);
        x.set(1, 1, 5);
        x.weeks(2);
        x.image(0);
        x.name(0, 3);
        x.turn(2);
        x.leave(1);
        x.job(3, 4);
        x.ask(1, 1);
        x.feed('n');
        x.feed('a');
        return x;
    }

    private static KitchenWheels bare() {
        KitchenWheels x = new KitchenWheels();
        x.row(0, 0, 3);
        x.row(1, 1, 2);
        x.set(0, 1, 2);
        x.feed('n');
        return x;
    }

    private static KitchenWheels fullTape() {
        KitchenWheels x = busy();
        for (int i = 0; i < 78; i++) {
            x.feed('a');
        }
        return x;
    }

    private static KitchenWheels lastWeek() {
        KitchenWheels x = busy();
        for (int i = 0; i < 41; i++) {
            x.weeks(24);
        }
        x.weeks(13);
        x.leave(0);
        return x;
    }

    private static List<ToLongFunction<KitchenWheels>> refusedAlways() {
        return List.of(
            x -> x.row(8, 0, 1), x -> x.row(-1, 0, 1), x -> x.row(0, 3, 1), x -> x.row(0, 0, 41), x -> x.row(0, 0, -1),
            x -> x.row(7, 0, MIN), x -> x.set(8, 0, 7), x -> x.set(2, 0, 7), x -> x.set(0, 3, 7), x -> x.set(0, -1, 7),
            x -> x.copy(8, 0, 0, 0, 1), x -> x.copy(0, 0, 8, 0, 1), x -> x.copy(2, 0, 0, 0, 1),
            x -> x.copy(0, 0, 2, 0, 1), x -> x.copy(0, 0, 1, 0, 1), x -> x.copy(0, 0, 0, 1, 3),
            x -> x.copy(0, 2, 0, 0, 2), x -> x.copy(0, 0, 0, 0, -1), x -> x.copy(0, 0, 0, 0, MAX),
            x -> x.drop(8), x -> x.drop(-1), x -> x.drop(2), x -> x.feed(-1), x -> x.feed(256),
            x -> x.image(-1), x -> x.image(2), x -> x.restore(-1), x -> x.restore(2), x -> x.restore(1),
            x -> x.turner(2, 0), x -> x.turner(0, 2), x -> x.who(2, 0, 0, 1), x -> x.who(0, 8, 0, 1),
            x -> x.who(0, 0, 0, 0), x -> x.kind(2), x -> x.as(2, 0), x -> x.as(0, 6), x -> x.ask(2, 0),
            x -> x.ask(0, 2), x -> x.ask(-1, 1), x -> x.count(8), x -> x.count(-1));
    }

    private static List<ToLongFunction<KitchenWheels>> refusedInKitchens() {
        return List.of(
            x -> x.weeks(0), x -> x.weeks(25), x -> x.leave(-1), x -> x.leave(6), x -> x.leave(1),
            x -> x.name(3, 0), x -> x.name(-1, 0), x -> x.name(0, 7), x -> x.name(0, -1),
            x -> x.job(4, 0), x -> x.job(-1, 0), x -> x.job(0, 7), x -> x.job(0, -1), x -> x.turn(0), x -> x.turn(9),
            x -> x.done(6, 0), x -> x.done(0, 6), x -> x.slot(8, 0), x -> x.slot(0, 3), x -> x.hasJobs(6, 0),
            x -> x.hasJobs(0, 61), x -> x.whoDoes(6, 0), x -> x.whoDoes(0, 61), x -> x.often(0, 0, 61),
            x -> x.meets(6, 0), x -> x.fairest(0, 0), x -> x.fairest(61, 1), x -> x.owed(6), x -> x.right(0, 0, 61, 0),
            x -> x.seen(6, 0, 0, 1), x -> x.seen(0, 0, 0, 13), x -> x.seen(0, 2, 0, 1), x -> x.seen(0, 0, 0, 4),
            x -> x.who(0, 2, 0, 1), x -> x.who(0, 0, 1, 3), x -> x.pairs(0), x -> x.pairs(61),
            x -> x.forgets(0, 0, 9, 0, 0), x -> x.forgets(0, 0, 0, 11, 0), x -> x.drawn(61, 1, 0),
            x -> x.drawn(0, 0, 0), x -> x.as(0, 5), x -> x.as(1, 1));
    }

    private static List<ToLongFunction<KitchenWheels>> refusedWithoutKitchen() {
        return List.of(
            KitchenWheels::undo, x -> x.weeks(1), x -> x.leave(0), x -> x.name(0, 0), x -> x.job(0, 0), x -> x.turn(1),
            x -> x.done(0, 0), x -> x.slot(0, 0), x -> x.hasJobs(0, 0), x -> x.whoDoes(0, 0), x -> x.often(0, 0, 1),
            x -> x.meets(0, 0), KitchenWheels::allMet, KitchenWheels::round, x -> x.fairest(1, 0), x -> x.owed(0),
            x -> x.right(0, 0, 0, 0), KitchenWheels::twice, x -> x.seen(0, 0, 0, 1), x -> x.pairs(1),
            x -> x.forgets(0, 0, 0, 0, 0), x -> x.drawn(0, 1, 0), x -> x.image(0), x -> x.restore(0));
    }

    /** All that can be seen of an object but status(); it is used up by this. */
    private static List<Long> sight(KitchenWheels x) {
        List<Long> seen = new ArrayList<>();
        seen.add((long) x.fault());
        for (int i = 0; i < 6; i++) {
            seen.add((long) x.trace(i));
        }
        kitchenSight(x, seen);
        seen.add((long) x.feed(';'));
        seen.add((long) x.kitchen());
        seen.add((long) x.fault());
        for (int i = 0; i < 7; i++) {
            seen.add((long) x.undo());
            seen.add((long) x.count(4));
            seen.add((long) x.slot(0, 2));
        }
        kitchenSight(x, seen);
        seen.add((long) x.restore(1));
        seen.add((long) x.restore(0));
        kitchenSight(x, seen);
        rowSight(x, seen);
        return seen;
    }

    private static void kitchenSight(KitchenWheels x, List<Long> seen) {
        for (int what = 0; what < 8; what++) {
            seen.add((long) x.count(what));
            seen.add((long) x.slot(what, 0));
            seen.add((long) x.slot(what, 1));
        }
        for (int i = 0; i < 6; i++) {
            seen.add((long) x.owed(i));
            // those who are away do nothing now
            seen.add((long) x.hasJobs(i, 0));
        }
        for (int i = 0; i < 2; i++) {
            seen.add((long) x.kind(i));
            seen.add((long) x.turner(i, 1));
        }
        seen.add((long) x.drawn(0, 1, 1));
        seen.add(x.forgets(0, 0, 2, 5, 1));
    }

    private static void rowSight(KitchenWheels x, List<Long> seen) {
        for (int item : new int[] {0, 1, 2, 3, 5, 7}) {
            Dues.tell(x, "na;jabcdefzz;s" + item + ";");
            for (int i = 0; i < 5; i++) {
                seen.add((long) x.who(0, i < 3 ? 0 : 1, i % 3, 1) & 4);
            }
        }
        for (int row = 0; row < 8; row++) {
            seen.add((long) x.drop(row));
        }
    }
}
