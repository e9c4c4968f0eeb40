/** Promises 28 and 29: what was turned, and by whom, as weeks that were seen tell. */
public final class SightsTest {
    private static final Dues D = new Dues();

    public static void main(String[] args) {
        turnedIsSeen();
        turnersOfLaterWeeksTurn();
        theLeastIsSeen();
        eightSlotsAreSeen();
        thoseAwayAreSeen();
        partsOfRowsAreSeen();
        seenIsRefused();
        kindsAreSeen();
        otherTurnersTurnToo();
        whoIsRefused();
        D.end("SightsTest");
    }

    private static void seen(KitchenWheels x, int job, int want, int... people) {
        Dues.lay(x, 0, people);
        D.due(28, "seen job " + job + " in " + people.length, x.seen(job, 0, 0, people.length), want);
    }

    private static void turnedIsSeen() {
        KitchenWheels x = Dues.told("nabc;jabz;o1;");
        x.turn(2);
        seen(x, 0, 1, 0);
        seen(x, 0, 2, 2);
        seen(x, 0, 4, 1);
        seen(x, 0, 0, -1);
        seen(x, 0, 0, 6);
        seen(x, 0, 1, 0, 2);
        seen(x, 0, 2, 2, 1, 0, 2);
        seen(x, 0, 4, 1, 0);
        seen(x, 0, 0, 0, 1);
        seen(x, 2, 7, -1, -1);
        seen(x, 0, 1, 0, 2, 1, 0, 2, 1, 0, 2, 1, 0, 2, 1);
        seen(x, 0, 0, 0, 2, 1, 0, 2, 1, 0, 2, 1, 0, 2, 2);
        KitchenWheels law = Dues.told("nabc;jazz;l1;s0;");
        law.weeks(2);
        // a law of 1 in week 2 turns by 3, so that all stays; then nobody turns
        seen(law, 0, 2, 2, 2, 2);
    }

    private static void turnersOfLaterWeeksTurn() {
        KitchenWheels x = Dues.told("nabc;jazz;s1;s0;s0;");
        x.weeks(1);
        seen(x, 0, 1, 0, 0, 0, 2);
        KitchenWheels y = Dues.told("na;jabcdefzz;s1;s1;s1;s2;");
        who(y, 3, 62, 1, 2, 3);
        who(y, 3, 2, 1, 2, 3, 4);
        who(y, 3, 12, 1, 2, 3, 5);
        who(y, 3, 16, 1, 2, 3, 0);
        who(y, 3, 32, 1, 2, 3, 6);
    }

    private static void theLeastIsSeen() {
        KitchenWheels x = Dues.told("nbac;jaab;s0;");
        seen(x, 0, 5, 0);
        seen(x, 0, 2, 1);
        seen(x, 0, 0, 2);
    }

    private static void eightSlotsAreSeen() {
        KitchenWheels x = Dues.told("nabcdefzz;jazzzzzzz;s0;");
        seen(x, 0, 6, -1);
        seen(x, 0, 8, 5);
        seen(x, 0, 128, 1);
        seen(x, 5, 255, -1);
    }

    private static void thoseAwayAreSeen() {
        KitchenWheels x = Dues.told("nab;jaz;s0;");
        x.leave(0);
        seen(x, 0, 3, 1);
        seen(x, 0, 1, 1, 0);
        seen(x, 0, 2, 1, 1);
        x.leave(1);
        seen(x, 0, 3, -1);
    }

    private static void partsOfRowsAreSeen() {
        KitchenWheels x = Dues.told("nabc;jabz;o1;");
        for (int lane = 0; lane < 3; lane++) {
            x.row(lane, lane, 5);
            x.set(lane, 0, 9);
            x.set(lane, 1, 9);
            x.set(lane, 2, 2);
            x.set(lane, 3, 1);
            x.set(lane, 4, -1);
            D.due(28, "lane " + lane, x.seen(0, lane, 2, 2), 2);
            D.due(28, "lane " + lane, x.seen(0, lane, 0, 3), 0);
            D.due(28, "lane " + lane, x.seen(3, lane, 4, 1), 7);
        }
    }

    private static void seenIsRefused() {
        KitchenWheels x = new KitchenWheels();
        D.due(28, "no kitchen ahead of BAD", x.seen(9, 9, 0, 0), Dues.STATE);
        x.row(0, 0, 12);
        D.due(28, "no kitchen", x.seen(0, 0, 0, 1), Dues.STATE);
        Dues.tell(x, "na;ja;o1;");
        for (int wrong : new int[] {-1, 6, Integer.MAX_VALUE, Integer.MIN_VALUE}) {
            D.due(28, "no job", x.seen(wrong, 0, 0, 1), Dues.BAD);
        }
        for (int wrong : new int[] {-1, 8, Integer.MAX_VALUE, Integer.MIN_VALUE}) {
            D.due(28, "no row", x.seen(0, wrong, 0, 1), Dues.BAD);
        }
        for (int wrong : new int[] {0, 13, -1, Integer.MAX_VALUE, Integer.MIN_VALUE}) {
            D.due(28, "no weeks", x.seen(0, 0, 0, wrong), Dues.BAD);
            D.due(28, "BAD ahead of NULL", x.seen(0, 1, 0, wrong), Dues.BAD);
        }
        D.due(28, "missing", x.seen(0, 1, 0, 1), Dues.NULL);
        D.due(28, "missing ahead of places", x.seen(0, 1, -1, 1), Dues.NULL);
        for (int wrong : new int[] {-1, 12, 13, Integer.MAX_VALUE, Integer.MIN_VALUE}) {
            D.due(28, "no place", x.seen(0, 0, wrong, 1), Dues.PLACE);
        }
        D.due(28, "beyond the end", x.seen(0, 0, 1, 12), Dues.PLACE);
        D.due(28, "up to the end", x.seen(0, 0, 0, 12), 1);
    }

    private static void who(KitchenWheels x, int turner, int want, int... turned) {
        Dues.lay(x, 0, turned);
        D.due(29, "who " + turner + " in " + turned.length, x.who(turner, 0, 0, turned.length), want);
    }

    private static void kindsAreSeen() {
        KitchenWheels x = Dues.told("na;jabcdefzz;s3;o1;");
        who(x, 0, 2, 1);
        who(x, 0, 20, 3);
        who(x, 0, 8, 4);
        who(x, 0, 32, 5);
        who(x, 0, 0, 0);
        who(x, 0, 20, 3, 4);
        who(x, 0, 4, 3, 4, 7);
        who(x, 0, 16, 3, 4, 1);
        who(x, 0, 0, 3, 5);
        x.turn(6);
        who(x, 0, 2, 7);
        who(x, 0, 32, 3);
        KitchenWheels still = Dues.told("na;ja;s3;");
        who(still, 0, 62, 0, 0, 0, 0, 0, 0, 0, 0, 0, 0, 0, 0);
    }

    private static void otherTurnersTurnToo() {
        KitchenWheels x = Dues.told("na;jabcdefzz;s3;o1;");
        who(x, 1, 62, 3);
        who(x, 1, 0, 4);
        who(x, 1, 14, 3, 4);
        who(x, 1, 48, 3, 5);
        x.weeks(1);
        who(x, 1, 14, 4);
        who(x, 0, 62, 4);
        D.due(29, "he is as he was", x.kind(0), 2);
    }

    private static void whoIsRefused() {
        KitchenWheels x = new KitchenWheels();
        x.row(0, 0, 12);
        D.due(29, "no kitchen", x.who(0, 0, 0, 1), Dues.BAD);
        Dues.tell(x, "na;ja;o1;");
        for (int wrong : new int[] {-1, 1, 4, Integer.MAX_VALUE, Integer.MIN_VALUE}) {
            D.due(29, "no turner", x.who(wrong, 0, 0, 1), Dues.BAD);
        }
        for (int wrong : new int[] {-1, 8, Integer.MAX_VALUE, Integer.MIN_VALUE}) {
            D.due(29, "no row", x.who(0, wrong, 0, 1), Dues.BAD);
        }
        for (int wrong : new int[] {0, 13, -1, Integer.MAX_VALUE, Integer.MIN_VALUE}) {
            D.due(29, "no weeks", x.who(0, 0, 0, wrong), Dues.BAD);
            D.due(29, "BAD ahead of NULL", x.who(0, 1, 0, wrong), Dues.BAD);
        }
        D.due(29, "missing", x.who(0, 1, 0, 1), Dues.NULL);
        D.due(29, "missing ahead of places", x.who(0, 1, -1, 1), Dues.NULL);
        for (int wrong : new int[] {-1, 12, 13, Integer.MAX_VALUE, Integer.MIN_VALUE}) {
            D.due(29, "no place", x.who(0, 0, wrong, 1), Dues.PLACE);
        }
        D.due(29, "beyond the end", x.who(0, 0, 1, 12), Dues.PLACE);
        D.due(29, "up to the end", x.who(0, 0, 0, 12), 62);
    }
}
