/** Part 1's TEXTS and promises 1 and 6 to 8. */
final class TextClauses {
    private static final String LETTERS = "abcdefz", SORTS = "osblr";

    static void test(Clauses c) {
        newObject(c);
        tape(c);
        tokens(c);
        wheels(c);
        turners(c);
        anew(c);
        faults(c);
        feed(c);
        kitchen(c);
        fault(c);
    }

    private static void sound(Clauses c, String text, int turners) {
        KitchenWheels x = new KitchenWheels();
        c.due(text, Dues.tell(x, text), turners);
        c.due("count(3) of " + text, x.count(3), turners);
        c.due("fault() of " + text, x.fault(), 0);
    }

    private static void faulty(Clauses c, String text, int place, int number) {
        KitchenWheels x = new KitchenWheels();
        c.due(text, Dues.tell(x, text), -1000100 - place);
        c.due("fault() of " + text, x.fault(), number);
        c.due("no KITCHEN by " + text, x.turn(1), Dues.STATE);
    }

    private static void newObject(Clauses c) {
        c.of(1, "No KITCHEN.");
        KitchenWheels x = new KitchenWheels();
        for (int what = 0; what < 8; what++) {
            c.due("count(" + what + ")", x.count(what), 0);
        }
        c.due("weeks(1)", x.weeks(1), Dues.STATE);
        c.due("slot(0, 0)", x.slot(0, 0), Dues.STATE);
        c.due("round()", x.round(), Dues.STATE);
        c.due("turner(0, 0)", x.turner(0, 0), Dues.BAD);
        c.due("kind(0)", x.kind(0), Dues.BAD);
        c.due("image(0)", x.image(0), Dues.STATE);
    }

    private static void tape(Clauses c) {
        c.term("TEXTS: THE TAPE has at most 80 bytes, that come one by one;");
        KitchenWheels x = new KitchenWheels();
        for (int i = 1; i <= 80; i++) {
            c.due("byte " + i, x.feed('n'), i);
        }
        c.due("byte 81", x.feed('n'), Dues.FULL);
        c.due("80 bytes", x.count(7), 80);
        c.due("a second n", x.kitchen(), -1000101);
        c.due("no bytes", x.count(7), 0);
        c.due("byte 1 again", x.feed('n'), 1);
    }

    /** Each byte in each place of a text: whether it can stand there, and where else the FAULT is. */
    private static void tokens(Clauses c) {
        String text = "na;ja;o1;";
        c.term("TOKENS: letters a to z (each by itself)");
        for (char letter = 0; letter < 256; letter++) {
            boolean slot = LETTERS.indexOf(letter) >= 0;
            replaced(c, text, 0, letter, letter == 'n' ? -1 : 0, 1);
            replaced(c, text, 1, letter, slot ? -1 : 1, 1);
            replaced(c, text, 3, letter, letter == 'j' ? -1 : 3, 1);
            replaced(c, text, 4, letter, slot ? -1 : 4, 1);
            replaced(c, text, 6, letter, SORTS.indexOf(letter) >= 0 ? -1 : 6, 1);
        }
        c.term("NUMBERS (figures, 2 at most)");
        for (char letter = 0; letter < 256; letter++) {
            boolean figure = letter >= '0' && letter <= '9';
            replaced(c, text, 7, letter, figure ? -1 : 7, 1);
        }
        sound(c, "na;ja;o00;", 1);
        sound(c, "na;ja;o09;", 1);
        faulty(c, "na;ja;o000;", 7, 1);
        faulty(c, "na;ja;o009;", 7, 1);
        c.term("SIGNS , and ; nothing else.");
        for (char letter = 0; letter < 256; letter++) {
            boolean slot = LETTERS.indexOf(letter) >= 0;
            boolean figure = letter >= '0' && letter <= '9';
            // a letter more in a wheel is fine, but then the next wheel's or turner's letter cannot stand there
            replaced(c, text, 2, letter, letter == ';' ? -1 : slot ? 3 : 2, 1);
            replaced(c, text, 5, letter, letter == ';' ? -1 : slot ? 6 : 5, 1);
            replaced(c, text, 8, letter, letter == ';' ? -1 : figure ? 7 : 8, figure ? 2 : 1);
            replaced(c, text + '?', 9, letter, SORTS.indexOf(letter) >= 0 ? 10 : 9, 1);
        }
        c.term("kitchen: names jobs turner { turner }.");
        faulty(c, "", 0, 1);
        faulty(c, "na;", 3, 1);
        faulty(c, "na;ja;", 6, 1);
        faulty(c, "ja;na;o1;", 0, 1);
        faulty(c, "na;o1;ja;", 3, 1);
        faulty(c, "na;ja;ja;o1;", 6, 1);
        faulty(c, "na;ja;o1;na;ja;o1;", 9, 1);
        sound(c, "na;ja;o1;", 1);
        sound(c, "na;ja;o1;o2;", 2);
    }

    private static void replaced(Clauses c, String text, int at, char letter, int place, int number) {
        String other = text.substring(0, at) + letter + text.substring(at + 1);
        if (place < 0) {
            sound(c, other, 1);
        } else {
            faulty(c, other, place, number);
        }
    }

    private static void wheels(Clauses c) {
        c.term("names: n and 1 to 8 letters ;");
        faulty(c, "n;ja;o1;", 1, 1);
        sound(c, "na;ja;o1;", 1);
        sound(c, "nabcdefza;ja;o1;", 1);
        faulty(c, "nabcdefzab;ja;o1;", 9, 1);
        faulty(c, "nabcdefza", 9, 1);
        KitchenWheels x = Dues.told("nabcdefza;ja;o1;");
        c.due("count(1)", x.count(1), 8);
        c.term("(a to f: PEOPLE 0 to 5; z: an empty SLOT).");
        for (int slot = 0; slot < 8; slot++) {
            c.due("slot " + slot, x.slot(slot, 0), slot < 7 ? slot : 0);
        }
        faulty(c, "ng;ja;o1;", 1, 1);
        faulty(c, "ny;ja;o1;", 1, 1);

        c.term("jobs: j and 1 to 8 letters ;");
        faulty(c, "na;j;o1;", 4, 1);
        sound(c, "na;ja;o1;", 1);
        sound(c, "na;jabcdefza;o1;", 1);
        faulty(c, "na;jabcdefzab;o1;", 12, 1);
        faulty(c, "na;jabcdefza", 12, 1);
        KitchenWheels y = Dues.told("na;jabcdefza;o1;");
        c.due("count(2)", y.count(2), 8);
        c.term("(a to f: JOBS 0 to 5; z: nobody's).");
        for (int slot = 0; slot < 8; slot++) {
            c.due("slot " + slot, y.slot(slot, 1), slot < 7 ? slot : 0);
        }
        faulty(c, "na;jg;o1;", 4, 1);
        faulty(c, "na;jy;o1;", 4, 1);
    }

    private static void turners(Clauses c) {
        c.term("turner: SORT BY ; (SORT: o one by one, s a step, b both, l a law, r one who puts right;");
        for (int i = 0; i < 5; i++) {
            KitchenWheels x = Dues.told("na;ja;" + SORTS.charAt(i) + "1;");
            c.due("kind of " + SORTS.charAt(i), x.kind(0), i + 1);
        }
        c.term("0 to 9;");
        for (int by = 0; by < 10; by++) {
            c.due("BY", Dues.told("na;ja;s" + by + ";").turner(0, 0), by);
            c.due("BY with a 0 ahead", Dues.told("na;ja;s0" + by + ";").turner(0, 0), by);
        }
        faulty(c, "na;ja;s10;", 7, 2);
        c.term("TURNERS 0 .. 3, 4 at most).");
        sound(c, "na;ja;o1;s2;b3;l4;", 4);
        faulty(c, "na;ja;o1;s2;b3;l4;r5;", 18, 3);
        KitchenWheels x = Dues.told("na;ja;o1;s2;b3;l4;");
        for (int turner = 0; turner < 4; turner++) {
            c.due("kind(" + turner + ")", x.kind(turner), turner + 1);
        }
        c.due("kind(4)", x.kind(4), Dues.BAD);
    }

    private static void anew(Clauses c) {
        c.term("A KITCHEN that is read stands in place of the one before");
        KitchenWheels x = Dues.told("nabc;jabc;s1;l2;r3;");
        x.weeks(5);
        x.turn(1);
        x.leave(0);
        c.due("kitchen()", Dues.tell(x, "nde;jf;b3;"), 1);
        c.due("names", x.count(1), 2);
        c.due("jobs", x.count(2), 1);
        c.due("turners", x.count(3), 1);
        c.due("name 0", x.slot(0, 0), 3);
        c.due("name 2", x.slot(2, 0), Dues.NONE);
        c.due("job 0", x.slot(0, 1), 5);
        c.due("job 1", x.slot(1, 1), Dues.NONE);
        c.due("turner 0", x.kind(0), 3);
        c.due("turner 1", x.kind(1), Dues.BAD);
        c.term("(none at first):");
        c.due("no names", new KitchenWheels().count(1), 0);
        c.term("WEEK 0,");
        c.due("count(4)", x.count(4), 0);
        c.term("TURNED 0,");
        Dues.tell(x, "na;jabc;s1;");
        x.weeks(2);
        Dues.tell(x, "na;jabc;s1;");
        c.due("drawn(0, 1, 1)", x.drawn(0, 1, 1), 0);
        c.due("slot(0, 2)", x.slot(0, 2), 0);
        c.term("nobody is away,");
        x.leave(0);
        Dues.tell(x, "na;jabc;s1;");
        c.due("hasJobs(0, 0)", x.hasJobs(0, 0), 1);
        c.due("leave(5)", x.leave(5), 32);
        c.term("nothing was DONE;");
        x.weeks(3);
        Dues.tell(x, "na;jabc;s1;");
        c.due("count(5)", x.count(5), 0);
        c.due("done(0, 0)", x.done(0, 0), 0);
        c.term("no ACT can be undone.");
        x.weeks(3);
        Dues.tell(x, "na;jabc;s1;");
        c.due("count(6)", x.count(6), 0);
        c.due("undo()", x.undo(), Dues.STATE);
    }

    private static void faults(Clauses c) {
        c.term("FAULTS, the first TOKEN that has one (its first byte),");
        faulty(c, "na;ja;o10;q", 7, 2);
        faulty(c, "ng;ja;o10;", 1, 1);
        faulty(c, "na;ja;o1;o1;o1;o10;o1;", 16, 2);
        faulty(c, "na;ja;o1;o1;o1;o1;o10;", 18, 3);
        c.term("of one TOKEN the least:");
        faulty(c, "na;ja;o1;o1;o1;o1;q1;", 18, 1);
        faulty(c, "na;ja;o1;o1;o1;o1;10;", 18, 1);
        faulty(c, "na;ja;99;", 6, 1);
        faulty(c, "n99;ja;o1;", 1, 1);
        faulty(c, "na;ja;o999;", 7, 1);
        c.term("1 it cannot stand there, or is none");
        faulty(c, "na;ja;oo;", 7, 1);
        faulty(c, "na;ja;o,;", 7, 1);
        faulty(c, "na;ja;o ;", 7, 1);
        faulty(c, "NA;ja;o1;", 0, 1);
        c.term("(a run of three figures, at its first;");
        faulty(c, "na;ja;o100;", 7, 1);
        faulty(c, "na;ja;o100", 7, 1);
        faulty(c, "na;ja;o1000;", 7, 1);
        faulty(c, "na000;", 2, 1);
        faulty(c, "123", 0, 1);
        c.term("the end: how many bytes there are);");
        String text = "nab;ja;o1;s02;";
        for (int bytes = 0; bytes < text.length(); bytes++) {
            if (bytes != 10) {
                faulty(c, text.substring(0, bytes), bytes, 1);
            }
        }
        sound(c, text.substring(0, 10), 1);
        sound(c, text, 2);
        c.term("2 a NUMBER that is not as told;");
        faulty(c, "na;ja;o10;", 7, 2);
        faulty(c, "na;ja;o99;", 7, 2);
        faulty(c, "na;ja;o10", 7, 2);
        sound(c, "na;ja;o9;", 1);
        c.term("3 a turner more than there is room for (its letter).");
        for (int i = 0; i < 5; i++) {
            faulty(c, "na;ja;o1;o1;o1;o1;" + SORTS.charAt(i), 18, 3);
        }
        sound(c, "na;ja;o1;o1;o1;o1;", 4);
    }

    private static void feed(Clauses c) {
        KitchenWheels x = new KitchenWheels();
        c.of(6, "A byte (0 to 255) comes behind the tape: how many it has.");
        c.due("feed(0)", x.feed(0), 1);
        c.due("feed(255)", x.feed(255), 2);
        c.of(6, "BAD;");
        c.bad("feed(?)", letter -> x.feed(letter), 0, 255);
        c.due("four bytes", x.count(7), 4);
        c.of(6, "FULL.");
        for (int i = 5; i <= 79; i++) {
            x.feed(i);
        }
        c.due("byte 80", x.feed('n'), 80);
        c.due("byte 81", x.feed('n'), Dues.FULL);
        c.due("byte 81", x.feed(0), Dues.FULL);
        c.due("80 bytes", x.count(7), 80);
    }

    private static void kitchen(Clauses c) {
        c.of(7, "The tape, empty then, is read: how many TURNERS there are.");
        KitchenWheels x = new KitchenWheels();
        c.due("one", Dues.tell(x, "na;ja;o1;"), 1);
        c.due("empty", x.count(7), 0);
        c.due("four", Dues.tell(x, "nabcdefzz;jabcdefzz;o09;s09;b09;l09;"), 4);
        c.due("empty", x.count(7), 0);
        c.due("a FAULT", Dues.tell(x, "nab"), -1000103);
        c.due("empty", x.count(7), 0);
        c.of(7, "-1000100 less the place of a FAULT:");
        c.due("place 0", x.kitchen(), -1000100);
        c.due("place 0", Dues.tell(x, "x"), -1000100);
        c.due("place 36", Dues.tell(x, "nabcdefzz;jabcdefzz;o09;s09;b09;l09;r1;"), -1000136);
        c.of(7, "all stays.");
        x.weeks(2);
        x.leave(4);
        c.due("a FAULT late", Dues.tell(x, "nf;jf;o1;r1;q"), -1000112);
        c.due("names", x.count(1), 8);
        c.due("jobs", x.count(2), 8);
        c.due("TURNERS", x.count(3), 4);
        c.due("turner 0", x.turner(0, 0), 9);
        c.due("turner 1", x.kind(1), 2);
        c.due("name 0", x.slot(0, 0), 0);
        c.due("job 0", x.slot(0, 1), 0);
        c.due("WEEK", x.count(4), 2);
        c.due("DONE", x.count(5), 11);
        c.due("ACTS", x.count(6), 3);
        c.due("away", x.leave(4), Dues.STATE);
        c.due("TURNED", x.drawn(0, 1, 1), 2);
    }

    private static void fault(Clauses c) {
        KitchenWheels x = new KitchenWheels();
        c.of(8, "0 before one.");
        c.due("at first", x.fault(), 0);
        Dues.tell(x, "na;ja;o1;");
        c.due("behind a sound text", x.fault(), 0);
        c.of(8, "The number of the latest FAULT;");
        Dues.tell(x, "na;ja;o1;o1;o1;o1;o1;");
        c.due("3", x.fault(), 3);
        Dues.tell(x, "na;ja;o10;");
        c.due("2", x.fault(), 2);
        x.kitchen();
        c.due("1", x.fault(), 1);
        Dues.tell(x, "na;ja;o1;");
        c.due("the latest yet", x.fault(), 1);
    }
}
