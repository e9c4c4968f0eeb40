/** Promises 1 and 6 to 8. */
public final class TextTest {
    private static final Dues D = new Dues();

    public static void main(String[] args) {
        newObjectHasNoKitchen();
        bytesAreFed();
        textsAreRead();
        faultsAreFound();
        faultsChangeNothing();
        aNewKitchenStandsAnew();
        D.end("TextTest");
    }

    private static void newObjectHasNoKitchen() {
        KitchenWheels x = new KitchenWheels();
        for (int what = 0; what < 8; what++) {
            D.due(1, "count(" + what + ")", x.count(what), 0);
        }
        D.due(1, "fault()", x.fault(), 0);
        D.due(1, "status()", x.status(), 0);
        D.due(1, "trace(0)", x.trace(0), Dues.NONE);
        D.due(1, "weeks(1)", x.weeks(1), Dues.STATE);
        D.due(1, "slot(0, 0)", x.slot(0, 0), Dues.STATE);
        D.due(1, "turner(0, 0)", x.turner(0, 0), Dues.BAD);
        for (int row = 0; row < 8; row++) {
            D.due(1, "drop", x.drop(row), Dues.NULL);
        }
        D.due(1, "restore(0)", x.restore(0), Dues.STATE);
        D.due(1, "restore(1)", x.restore(1), Dues.STATE);
        D.due(1, "NONE", KitchenWheels.NONE, Dues.NONE);
        D.due(1, "BAD", KitchenWheels.BAD, Dues.BAD);
        D.due(1, "STATE", KitchenWheels.STATE, Dues.STATE);
        D.due(1, "FULL", KitchenWheels.FULL, Dues.FULL);
    }

    private static void bytesAreFed() {
        KitchenWheels x = new KitchenWheels();
        for (int wrong : new int[] {-1, 256, Integer.MAX_VALUE, Integer.MIN_VALUE}) {
            D.due(6, "feed(" + wrong + ")", x.feed(wrong), Dues.BAD);
        }
        D.due(39, "count(7)", x.count(7), 0);
        D.due(6, "feed(0)", x.feed(0), 1);
        D.due(6, "feed(255)", x.feed(255), 2);
        for (int i = 3; i <= 80; i++) {
            D.due(6, "feed", x.feed('a'), i);
            D.due(39, "count(7)", x.count(7), i);
        }
        D.due(6, "feed, no room", x.feed('a'), Dues.FULL);
        D.due(6, "feed, wrong and no room", x.feed(256), Dues.BAD);
        D.due(39, "count(7)", x.count(7), 80);
        D.due(7, "a full tape", x.kitchen(), -1000100);
        D.due(39, "count(7)", x.count(7), 0);
        D.due(6, "feed", x.feed('a'), 1);
    }

    private static void sound(String text, int turners) {
        KitchenWheels x = new KitchenWheels();
        D.due(7, text, Dues.tell(x, text), turners);
        D.due(39, "count(3)", x.count(3), turners);
        D.due(39, "count(7)", x.count(7), 0);
        D.due(8, "fault()", x.fault(), 0);
    }

    private static void textsAreRead() {
        sound("na;ja;o0;", 1);
        sound("nz;jz;r9;", 1);
        sound("nabcdefzz;jabcdefzz;o0;s9;b5;l1;", 4);
        sound("naaaaaaaa;jzzzzzzzz;o00;s09;b05;", 3);
        KitchenWheels x = Dues.told("nfza;jebz;o1;s02;b3;l4;");
        int[] names = {5, 6, 0};
        int[] jobs = {4, 1, 6};
        for (int slot = 0; slot < 3; slot++) {
            D.due(7, "name in " + slot, x.slot(slot, 0), names[slot]);
            D.due(7, "job in " + slot, x.slot(slot, 1), jobs[slot]);
        }
        for (int turner = 0; turner < 4; turner++) {
            D.due(7, "by of " + turner, x.turner(turner, 0), turner + 1);
            D.due(7, "kind of " + turner, x.kind(turner), turner + 1);
        }
        D.due(7, "kind", Dues.tell(x, "na;ja;r1;"), 1);
        D.due(7, "kind", x.kind(0), 5);
    }

    private static void faulty(String text, int place, int fault) {
        KitchenWheels x = new KitchenWheels();
        D.due(7, text, Dues.tell(x, text), -1000100 - place);
        D.due(8, "fault() of " + text, x.fault(), fault);
        D.due(7, "no kitchen by " + text, x.count(3), 0);
        D.due(7, "no kitchen by " + text, x.turn(1), Dues.STATE);
        D.due(7, "the tape is empty", x.count(7), 0);
    }

    private static void faultsAreFound() {
        faulty("", 0, 1);
        faulty("n", 1, 1);
        faulty("N", 0, 1);
        faulty(" na;ja;o1;", 0, 1);
        faulty("ja;na;o1;", 0, 1);
        faulty("1", 0, 1);
        faulty("n;ja;o1;", 1, 1);
        faulty("nja;o1;", 1, 1);
        faulty("na;jo1;", 4, 1);
        faulty("n12;", 1, 1);
        faulty("n123;", 1, 1);
        faulty("ng;", 1, 1);
        faulty("ny;", 1, 1);
        faulty("n{;", 1, 1);
        faulty("n`;", 1, 1);
        faulty("nab", 3, 1);
        faulty("na,b;", 2, 1);
        faulty("na1;", 2, 1);
        faulty("naaaaaaaaa;", 9, 1);
        faulty("naaaaaaaag;", 9, 1);
        faulty("na;", 3, 1);
        faulty("na;na;", 3, 1);
        faulty("na;j;", 4, 1);
        faulty("na;jh;", 4, 1);
        faulty("na;jaaaaaaaaa;", 12, 1);
        faulty("na;ja", 5, 1);
        faulty("na;ja;", 6, 1);
        faulty("na;ja;;", 6, 1);
        faulty("na;ja;q1;", 6, 1);
        faulty("na;ja;5;", 6, 1);
        faulty("na;ja;o", 7, 1);
        faulty("na;ja;o;", 7, 1);
        faulty("na;ja;oo;", 7, 1);
        faulty("na;ja;o10;", 7, 2);
        faulty("na;ja;o99;", 7, 2);
        faulty("na;ja;o10", 7, 2);
        faulty("na;ja;o000;", 7, 1);
        faulty("na;ja;o100;", 7, 1);
        faulty("na;ja;o1000;", 7, 1);
        faulty("na;ja;o1", 8, 1);
        faulty("na;ja;o1,", 8, 1);
        faulty("na;ja;o01", 9, 1);
        faulty("na;ja;o01x", 9, 1);
        faulty("na;ja;o1;n", 9, 1);
        faulty("na;ja;o1;,", 9, 1);
        faulty("na;ja;o1; ", 9, 1);
        faulty("na;ja;o1;o1;o1;o1;r", 18, 3);
        faulty("na;ja;o1;o1;o1;o1;o10;", 18, 3);
        faulty("na;ja;o1;o1;o1;o1;q", 18, 1);
        faulty("na;ja;o1;o1;o1;o1;;", 18, 1);
        faulty("na;ja;o1;o1;o1;o1;12", 18, 1);
        faulty("na;ja;o1;o1;o1;o77;q", 16, 2);
        faulty("na;ja;\u00ff", 6, 1);
        faulty("na;\u0000", 3, 1);
    }

    private static void faultsChangeNothing() {
        KitchenWheels x = Dues.told("nab;jab;s1;");
        x.weeks(1);
        x.leave(1);
        D.due(7, "a fault", Dues.tell(x, "na;ja;o10;"), -1000107);
        D.due(8, "fault()", x.fault(), 2);
        D.due(7, "week stays", x.count(4), 1);
        D.due(7, "acts stay", x.count(6), 2);
        D.due(7, "names stay", x.count(1), 2);
        D.due(7, "away stays", x.leave(1), Dues.STATE);
        D.due(7, "turners stay", x.kind(0), 2);
        D.due(7, "a second fault", Dues.tell(x, "na;ja;o1;o1;o1;o1;o1;"), -1000118);
        D.due(8, "the latest", x.fault(), 3);
        D.due(7, "sound", Dues.tell(x, "na;ja;o1;"), 1);
        D.due(8, "the latest yet", x.fault(), 3);
        D.due(7, "nothing", x.kitchen(), -1000100);
        D.due(8, "the latest", x.fault(), 1);
        D.due(7, "kitchen stays", x.count(3), 1);
    }

    private static void aNewKitchenStandsAnew() {
        KitchenWheels x = Dues.told("nabc;jabc;s1;l2;");
        x.weeks(4);
        x.leave(0);
        x.turn(1);
        D.due(7, "anew", Dues.tell(x, "nabcd;jab;b3;"), 1);
        D.due(7, "names", x.count(1), 4);
        D.due(7, "jobs", x.count(2), 2);
        D.due(7, "turners", x.count(3), 1);
        D.due(7, "WEEK", x.count(4), 0);
        D.due(7, "DONE", x.count(5), 0);
        D.due(7, "ACTS", x.count(6), 0);
        D.due(7, "undo()", x.undo(), Dues.STATE);
        D.due(7, "TURNED", x.slot(0, 2), 0);
        D.due(7, "nobody is away", x.hasJobs(0, 0), 1);
        D.due(7, "he can leave", x.leave(0), 1);
        D.due(7, "no turner more", x.kind(1), Dues.BAD);
    }
}
