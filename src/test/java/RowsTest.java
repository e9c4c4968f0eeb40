/** Promises 2 to 5 and 40, and the ROWS of 39. */
public final class RowsTest {
    private static final Dues D = new Dues();

    public static void main(String[] args) {
        rowsAreLaid();
        rowsAreRefused();
        itemsAreCut();
        itemsAreRefused();
        itemsAreCopied();
        copiesAreRefused();
        rowsAreDropped();
        statusTells();
        D.end("RowsTest");
    }

    private static void rowsAreLaid() {
        KitchenWheels x = new KitchenWheels();
        for (int row = 0; row < 8; row++) {
            D.due(2, "row", x.row(row, row % 3, row * 5), row * 5);
            D.due(39, "count(0)", x.count(0), row + 1);
        }
        D.due(2, "row of 40", x.row(3, 2, 40), 40);
        D.due(39, "count(0)", x.count(0), 8);
        D.due(3, "last item", x.set(3, 39, 7), 7);
        D.due(2, "row of 0", x.row(3, 0, 0), 0);
        D.due(39, "count(0)", x.count(0), 8);
        D.due(3, "no item", x.set(3, 0, 1), Dues.PLACE);
        Dues.lay(x, 1, 5, 6, 7);
        D.due(2, "row anew", x.row(1, 2, 3), 3);
        x.row(2, 2, 3);
        // items are 0 at first: a kitchen whose turned stays 0 shows what they are
        Dues.tell(x, "na;ja;o1;");
        D.due(2, "items are 0", x.who(0, 1, 0, 3), 62);
    }

    private static void rowsAreRefused() {
        KitchenWheels x = new KitchenWheels();
        for (int wrong : new int[] {-1, 8, Integer.MIN_VALUE, Integer.MAX_VALUE}) {
            D.due(2, "row(wrong, 0, 1)", x.row(wrong, 0, 1), Dues.BAD);
            D.due(2, "row(wrong, 0, -1)", x.row(wrong, 0, -1), Dues.BAD);
        }
        for (int wrong : new int[] {-1, 3, Integer.MIN_VALUE, Integer.MAX_VALUE}) {
            D.due(2, "row(0, wrong, 1)", x.row(0, wrong, 1), Dues.BAD);
            D.due(2, "row(0, wrong, -1)", x.row(0, wrong, -1), Dues.BAD);
        }
        D.due(2, "row(0, 0, 41)", x.row(0, 0, 41), Dues.BAD);
        D.due(2, "row(0, 0, max)", x.row(0, 0, Integer.MAX_VALUE), Dues.BAD);
        D.due(2, "row(0, 0, -1)", x.row(0, 0, -1), Dues.SIZE);
        D.due(2, "row(0, 0, min)", x.row(0, 0, Integer.MIN_VALUE), Dues.SIZE);
        D.due(39, "count(0)", x.count(0), 0);
        Dues.lay(x, 0, 1, 2, 3);
        x.row(0, 2, -1);
        x.row(0, 3, 1);
        x.row(0, 2, 41);
        D.due(2, "a refused row stays", x.drop(0), 3);
    }

    private static void itemsAreCut() {
        KitchenWheels x = new KitchenWheels();
        for (int lane = 0; lane < 3; lane++) {
            x.row(lane, lane, 2);
        }
        int[] values = {0, 1, -1, 127, 128, 255, 256, -128, -129, 32767, 32768, 65535, 65536, -32769,
            Integer.MAX_VALUE, Integer.MIN_VALUE};
        for (int value : values) {
            D.due(3, "byte " + value, x.set(0, 1, value), (byte) value);
            D.due(3, "short " + value, x.set(1, 1, value), (short) value);
            D.due(3, "int " + value, x.set(2, 1, value), value);
        }
    }

    private static void itemsAreRefused() {
        KitchenWheels x = new KitchenWheels();
        D.due(3, "set(-1, 0, 0)", x.set(-1, 0, 0), Dues.BAD);
        D.due(3, "set(8, 0, 0)", x.set(8, 0, 0), Dues.BAD);
        D.due(3, "set(0, 0, 0)", x.set(0, 0, 0), Dues.NULL);
        D.due(3, "set(0, -1, 0)", x.set(0, -1, 0), Dues.NULL);
        x.row(0, 0, 3);
        D.due(3, "set(0, 2, 9)", x.set(0, 2, 9), 9);
        for (int wrong : new int[] {3, -1, Integer.MAX_VALUE, Integer.MIN_VALUE}) {
            D.due(3, "set(0, wrong, 0)", x.set(0, wrong, 0), Dues.PLACE);
        }
    }

    /** Tells items by who(): turned goes 1, 2, 3 .. in this kitchen. */
    private static boolean holds(KitchenWheels x, int row, int at, int value) {
        KitchenWheels y = x;
        Dues.tell(y, "na;jabcdefzz;s" + value + ";");
        return (y.who(0, row, at, 1) & 4) != 0;
    }

    private static void itemsAreCopied() {
        KitchenWheels x = new KitchenWheels();
        Dues.lay(x, 0, 1, 2, 3, 4, 5);
        D.due(4, "copy onto itself, behind", x.copy(0, 0, 0, 1, 4), 4);
        int[] want = {1, 1, 2, 3, 4};
        for (int i = 0; i < 5; i++) {
            D.due(4, "item " + i, holds(x, 0, i, want[i]) ? 1 : 0, 1);
        }
        D.due(4, "copy onto itself, ahead", x.copy(0, 2, 0, 0, 3), 3);
        int[] then = {2, 3, 4, 3, 4};
        for (int i = 0; i < 5; i++) {
            D.due(4, "item " + i, holds(x, 0, i, then[i]) ? 1 : 0, 1);
        }
        Dues.lay(x, 1, 7, 6);
        D.due(4, "copy to another", x.copy(1, 0, 0, 3, 2), 2);
        D.due(4, "item 3", holds(x, 0, 3, 7) ? 1 : 0, 1);
        D.due(4, "item 4", holds(x, 0, 4, 6) ? 1 : 0, 1);
        D.due(4, "item 2", holds(x, 0, 2, 4) ? 1 : 0, 1);
        D.due(4, "what is copied stays", holds(x, 1, 0, 7) ? 1 : 0, 1);
        D.due(4, "nothing at the ends", x.copy(0, 5, 1, 2, 0), 0);
        D.due(4, "all", x.copy(0, 0, 0, 0, 5), 5);
    }

    private static void copiesAreRefused() {
        KitchenWheels x = new KitchenWheels();
        x.row(0, 2, 4);
        x.row(1, 1, 4);
        x.row(2, 2, 3);
        D.due(4, "no row a", x.copy(8, 0, 0, 0, 0), Dues.BAD);
        D.due(4, "no row b", x.copy(0, 0, -1, 0, 0), Dues.BAD);
        D.due(4, "no row ahead of missing", x.copy(5, 0, 8, 0, 0), Dues.BAD);
        D.due(4, "a missing", x.copy(5, 0, 0, 0, 0), Dues.NULL);
        D.due(4, "b missing", x.copy(0, 0, 5, 0, 0), Dues.NULL);
        D.due(4, "missing ahead of places", x.copy(0, -1, 5, 9, -1), Dues.NULL);
        D.due(4, "lanes", x.copy(0, 0, 1, 0, 1), Dues.STORE);
        D.due(4, "lanes ahead of places", x.copy(0, -1, 1, 9, -1), Dues.STORE);
        D.due(4, "lanes, nothing", x.copy(0, 0, 1, 0, 0), Dues.STORE);
        int[][] places = {{-1, 0, 1}, {0, -1, 1}, {0, 0, -1}, {2, 0, 3}, {0, 1, 3}, {5, 0, 0}, {0, 4, 0}, {0, 0, 4},
            {Integer.MAX_VALUE, 0, 1}, {0, Integer.MAX_VALUE, 1}, {1, 1, Integer.MAX_VALUE},
            {Integer.MAX_VALUE, 0, Integer.MAX_VALUE}, {Integer.MIN_VALUE, 0, 0}, {0, 0, Integer.MIN_VALUE}};
        for (int[] p : places) {
            D.due(4, "copy(0, " + p[0] + ", 2, " + p[1] + ", " + p[2] + ")", x.copy(0, p[0], 2, p[1], p[2]), Dues.PLACE);
        }
        D.due(4, "at the ends", x.copy(0, 1, 2, 0, 3), 3);
    }

    private static void rowsAreDropped() {
        KitchenWheels x = new KitchenWheels();
        D.due(5, "drop(-1)", x.drop(-1), Dues.BAD);
        D.due(5, "drop(8)", x.drop(8), Dues.BAD);
        D.due(5, "drop(7)", x.drop(7), Dues.NULL);
        x.row(7, 1, 13);
        x.row(6, 1, 0);
        D.due(5, "drop(7)", x.drop(7), 13);
        D.due(39, "count(0)", x.count(0), 1);
        D.due(5, "drop(6)", x.drop(6), 0);
        D.due(5, "drop(7) again", x.drop(7), Dues.NULL);
        D.due(39, "count(0)", x.count(0), 0);
    }

    private static void statusTells() {
        KitchenWheels x = new KitchenWheels();
        D.due(40, "at first", x.status(), 0);
        x.drop(0);
        D.due(40, "NULL", x.status(), 1);
        x.drop(8);
        x.row(0, 3, 1);
        x.set(9, 0, 0);
        x.copy(0, 0, 9, 0, 0);
        x.seen(0, 0, 0, 1);
        x.who(0, 0, 0, 1);
        x.as(0, 0);
        D.due(40, "what is BAD or STATE changes nothing", x.status(), 1);
        x.row(0, 0, 2);
        D.due(40, "none", x.status(), 0);
        x.set(0, 2, 0);
        D.due(40, "PLACE", x.status(), 2);
        x.feed(1000);
        x.feed('n');
        x.kitchen();
        x.weeks(1);
        x.count(0);
        D.due(40, "calls without a row change nothing", x.status(), 2);
        x.set(0, 1, 0);
        D.due(40, "set", x.status(), 0);
        x.row(0, 0, -1);
        D.due(40, "SIZE", x.status(), 4);
        x.copy(0, 0, 0, 0, 1);
        D.due(40, "copy", x.status(), 0);
        x.row(1, 1, 1);
        x.copy(0, 0, 1, 0, 1);
        D.due(40, "STORE", x.status(), 5);
        x.drop(1);
        D.due(40, "drop", x.status(), 0);
        Dues.tell(x, "na;ja;o1;");
        x.as(0, 4);
        D.due(40, "KIND", x.status(), 3);
        x.as(0, 6);
        D.due(40, "a BAD as", x.status(), 3);
        x.as(0, 1);
        D.due(40, "as", x.status(), 0);
        x.seen(0, 5, 0, 1);
        D.due(40, "seen NULL", x.status(), 1);
        x.seen(0, 0, 0, 2);
        D.due(40, "seen", x.status(), 0);
        x.who(0, 0, 1, 2);
        D.due(40, "who PLACE", x.status(), 2);
        x.who(0, 0, 1, 0);
        D.due(40, "who BAD", x.status(), 2);
        x.who(0, 0, 0, 2);
        D.due(40, "who", x.status(), 0);
    }
}
