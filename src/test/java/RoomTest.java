import java.lang.management.ManagementFactory;

/** What objects and calls take of the one room that a run has: 512 calls may take only a small part of it. */
public final class RoomTest {
    private static final Dues D = new Dues();
    private static final com.sun.management.ThreadMXBean ROOM =
        (com.sun.management.ThreadMXBean) ManagementFactory.getThreadMXBean();
    private static long sum;

    public static void main(String[] args) {
        // the first run of all loads classes
        oneOfEach(new KitchenWheels());
        long before = taken();
        KitchenWheels x = new KitchenWheels();
        small("an object", taken() - before, 6000);
        before = taken();
        for (int i = 0; i < 500; i++) {
            oneOfEach(x);
        }
        // 500 kitchens of 4 turners, 500 who() of 5, and the acts and images kept once
        small("500 of each call", taken() - before, 200000);
        D.due(0, "all answers are looked at", sum == 0 ? 0 : 1, 1);
        D.end("RoomTest");
    }

    private static long taken() {
        return ROOM.getThreadAllocatedBytes(Thread.currentThread().getId());
    }

    private static void small(String what, long bytes, long most) {
        D.due(0, what + " takes " + bytes + " bytes, at most " + most, bytes <= most ? 1 : 0, 1);
    }

    private static final String TEXT = "nabcdefza;jabcdefza;l9;r9;b9;s9;";

    private static void oneOfEach(KitchenWheels x) {
        for (int i = 0; i < TEXT.length(); i++) {
            sum += x.feed(TEXT.charAt(i));
        }
        sum += x.kitchen() + x.fault() + x.row(0, 2, 40) + x.row(1, 2, 40) + x.set(0, 0, 1) + x.copy(0, 0, 1, 3, 30);
        sum += x.leave(1) + x.weeks(24) + x.turn(3) + x.name(3, 6) + x.job(3, 5) + x.undo() + x.done(0, 0);
        sum += x.slot(0, 2) + x.turner(0, 1) + x.hasJobs(0, 60) + x.whoDoes(0, 60) + x.often(0, 0, 60) + x.meets(0, 0);
        sum += x.allMet() + x.round() + x.fairest(60, 0) + x.owed(0) + x.right(0, 0, 60, 1) + x.twice();
        sum += x.seen(0, 0, 0, 12) + x.who(0, 0, 0, 12) + x.pairs(60) + x.forgets(0, 0, 8, 3, 0) + x.drawn(60, 9, 0);
        sum += x.image(0) + x.image(1) + x.restore(1) + x.kind(0) + x.as(0, 4) + x.ask(1, 0) + x.trace(0) + x.count(5);
        sum += x.drop(1) + x.status();
    }
}
