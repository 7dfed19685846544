/** Promises 40 to 43: each sentence that names an edge has a test here, with its words ahead of it. */
public final class EdgesOfKeptTests {
    private static final int[] FAR_OFF = {Integer.MIN_VALUE, Integer.MAX_VALUE};

    public static void main(String[] args) throws Exception {
        Checks.runEach(EdgesOfKeptTests.class);
    }

    // ---- 40: keep

    /** "kept under a number 0 .. 2: true" */
    private static void promise40From0To2() {
        OverTheHill x = Checks.landOf("~1*", "10,00");
        for (int i = 0; i <= 2; i++) {
            x.hours(1);
            Checks.due("keep(" + i + ")", x.keep(i), true);
        }
        x.hours(30);
        for (int i = 2; i >= 0; i--) {
            Checks.due("again(" + i + ")", x.again(i), true);
            Checks.due("hour kept under " + i, x.count(6), i + 1);
            Checks.due("night kept under " + i, x.count(5), 0);
        }
    }

    /** What was kept under a number before is kept no more. */
    private static void promise40KeptAnew() {
        OverTheHill x = Checks.landOf("~1*", "10,00");
        x.keep(1);
        x.plank(1);
        x.keep(1);
        x.plank(1);
        Checks.due("again", x.again(1), true);
        Checks.due("the later one", x.count(10), 1);
    }

    /** "Refused: others." */
    private static void promise40Others() {
        for (int i : new int[] {-1, 3, 4, FAR_OFF[0], FAR_OFF[1]}) {
            Twin.refused("keep(" + i + ")", x -> x.keep(i) ? 1 : 0, 0);
        }
    }

    /** keep() itself changes nothing that can be asked. */
    private static void promise40KeepsOnly() {
        OverTheHill x = Twin.underWay();
        x.keep(1);
        int[] counts = {3, 3, 3, 120, 72, 1, 1, 0, 3, 1, 2, 1, 2, 6, 3, 0};
        for (int what = 0; what < counts.length; what++) {
            Checks.due("count(" + what + ")", x.count(what), counts[what]);
        }
        Checks.rowDue("keep", x, 0, 3, 1);
    }

    // ---- 41: again

    /** "They are as they were kept": PLANKS, where SHIPS are, what was dragged, USED, NIGHT, HOUR, NOISE, ALARMS. */
    private static void promise41AsTheyWereKept() {
        OverTheHill x = Twin.underWay();
        int[] counts = new int[12];
        for (int what = 4; what <= 11; what++) {
            counts[what] = x.count(what);
        }
        x.keep(1);
        x.plank(4);
        x.plank(7);
        x.hours(12);
        x.drag(0, 3);
        x.drag(2, 2);
        Checks.due("again", x.again(1), true);
        for (int what = 4; what <= 11; what++) {
            Checks.due("count(" + what + ")", x.count(what), what == 7 ? 0 : counts[what]);
        }
        int[] places = {2, 4, 0};
        int[] dragged = {1, 1, 0};
        for (int ship = 0; ship < 3; ship++) {
            Checks.due("where " + ship + " is", x.ship(ship, 1), places[ship]);
            Checks.due("dragged " + ship, x.ship(ship, 2), dragged[ship]);
        }
        int[] planks = {0, 0, 0, 0, 1, 1, 0, 0, 0};
        for (int field = 0; field < 9; field++) {
            Checks.due("planks at " + field, x.field(field, 2), planks[field]);
        }
    }

    /** "where SHIPS are": of all 8. */
    private static void promise41AllShips() {
        OverTheHill x = Checks.landOf("~*", "1,00;1,00;1,00;1,00;1,00;1,00;1,00;1,00");
        for (int ship = 0; ship < 8; ship++) {
            x.drag(ship, 1);
        }
        x.keep(0);
        x.hours(1);
        for (int ship = 0; ship < 8; ship++) {
            x.drag(ship, 3);
        }
        Checks.due("none in the harbour", x.count(11), 0);
        Checks.due("again", x.again(0), true);
        Checks.due("all in the harbour", x.count(11), 255);
        for (int ship = 0; ship < 8; ship++) {
            Checks.due("dragged " + ship, x.ship(ship, 2), 1);
        }
    }

    /** OXEN, EAR, WEIGHTS, THE RULE, traces are not told of: they stay as they are. */
    private static void promise41WhatStays() {
        OverTheHill x = Checks.landOf("~1*", "10,00");
        x.keep(0);
        x.set(0, 50);
        x.set(1, 5);
        x.sheet(2, 1, 20, 0);
        Checks.ruled(x, "w");
        x.trace(7, 1);
        x.storm(2, 2);
        Checks.due("again", x.again(0), true);
        Checks.due("oxen", x.count(3), 50);
        Checks.due("ear", x.count(7), 5);
        Checks.due("weight, and THE RULE", x.pull(0, 1), 20);
        Checks.due("traces", x.count(12), 1);
        Checks.rowDue("again", x, 0, 3, 1);
    }

    /** It can be had again any many times. */
    private static void promise41MoreThanOnce() {
        OverTheHill x = Checks.landOf("~1*", "10,00");
        x.keep(2);
        for (int i = 0; i < 5; i++) {
            x.hours(3);
            Checks.due("again", x.again(2), true);
            Checks.due("hour", x.count(6), 0);
            Checks.due("to be undone", x.count(13), 0);
        }
    }

    /** More USED than there are OXEN comes back, too. */
    private static void promise41MoreUsedThanOxen() {
        OverTheHill x = Checks.landOf("~*", "10,00;10,00");
        x.drag(0, 1);
        x.keep(0);
        x.hours(1);
        x.set(0, 10);
        Checks.due("again", x.again(0), true);
        Checks.due("used", x.count(4), 11);
        Checks.due("oxen", x.count(3), 10);
        Checks.due("none are left", x.drag(1, 1), -4);
    }

    /** "Refused: nothing kept, .." */
    private static void promise41NothingKept() {
        Twin.refused("again(1)", x -> x.again(1) ? 1 : 0, 0);
        for (int i : new int[] {-1, 3, FAR_OFF[0], FAR_OFF[1]}) {
            Twin.refused("again(" + i + ")", x -> x.again(i) ? 1 : 0, 0);
        }
        OverTheHill x = new OverTheHill();
        for (int i = 0; i <= 2; i++) {
            Checks.due("in a new object: again(" + i + ")", x.again(i), false);
        }
        x.keep(0);
        Checks.due("kept in a new object", x.again(0), true);
        x.keep(0);
        Checks.tell(x, "~").land();
        Checks.due("land anew", x.again(0), false);
        x.keep(0);
        Checks.tell(x, "x").land();
        Checks.due("land refused", x.again(0), true);
    }

    /** "Refused: .. SHIPS came since." */
    private static void promise41ShipsCameSince() {
        OverTheHill x = Checks.landOf("~1*", "10,00");
        x.keep(0);
        x.keep(1);
        Checks.tell(x, "").ships();
        Checks.due("none came", x.again(0), true);
        Checks.tell(x, "5,01").ships();
        Checks.due("none could", x.again(0), true);
        Checks.tell(x, "5,00").ships();
        x.hours(1);
        Checks.due("one came", x.again(0), false);
        Checks.due("hour", x.count(6), 1);
        Checks.due("to be undone", x.count(13), 1);
        x.keep(1);
        Checks.due("kept since", x.again(1), true);
        Checks.due("not kept since", x.again(0), false);
        OverTheHill none = new OverTheHill();
        none.keep(0);
        Checks.tell(none, "5,00").ships();
        Checks.due("kept without ships", none.again(0), false);
    }

    // ---- 42, 43: count, row

    /** Each of 0 .. 15, as full as it can be. */
    private static void promise42Full() {
        OverTheHill x = Checks.landOf("~~~~~~/~~~~~~/~~~~~~/~~~~~~/~~~~~~/******");
        Checks.due("rows", x.count(0), 6);
        Checks.due("columns", x.count(1), 6);
        Checks.tell(x, "1,24;1,24;1,24;1,24;1,24;1,24;1,24;1,24").ships();
        Checks.due("ships", x.count(2), 8);
        for (int ship = 0; ship < 8; ship++) {
            x.drag(ship, 2);
        }
        Checks.due("ships in the harbour", x.count(11), 255);
        for (int i = 0; i < 12; i++) {
            x.trace(5, 1);
        }
        Checks.due("traces", x.count(12), 12);
        for (int i = 0; i < 16; i++) {
            x.hours(1);
        }
        Checks.due("to be undone", x.count(13), 15);
        for (int i = 0; i < 20; i++) {
            x.sign(0);
        }
        Checks.due("signs", x.count(15), 80);
        OverTheHill snail = Checks.ruled(Checks.landOf(EdgesOfTermsTests.SNAIL), "u+v");
        snail.way(1, 0, 30);
        Checks.due("numbers of the row", snail.count(14), 36);
        for (int field = 0; field < 36; field++) {
            snail.plank(field);
        }
        Checks.due("fields with planks", snail.count(10), 36);
    }

    /** "-100 for another what." */
    private static void promise42Another() {
        for (int what : new int[] {-1, 16, 17, 100, FAR_OFF[0], FAR_OFF[1]}) {
            Twin.refused("count(" + what + ")", x -> x.count(what), -100);
        }
    }

    /** "Number i of the ROW." From 0 on. */
    private static void promise43FromNoughtOn() {
        OverTheHill x = new OverTheHill();
        x.storm(6, 0);
        Checks.due("row(0)", x.row(0), 0);
        Checks.due("row(1)", x.row(1), 1);
        Checks.due("row(2)", x.row(2), 1);
    }

    /** "NoSuchElementException: none such." */
    private static void promise43NoneSuch() {
        OverTheHill x = Checks.landOf("~1*");
        for (int i : new int[] {0, 1, -1, 36, FAR_OFF[0], FAR_OFF[1]}) {
            Checks.noSuch("row(" + i + ") of none", () -> x.row(i));
        }
        x.easy(5, 0, 2);
        for (int i : new int[] {3, 4, -1, 35, 36, FAR_OFF[0], FAR_OFF[1]}) {
            Checks.noSuch("row(" + i + ") of three", () -> x.row(i));
        }
        x.pass();
        Checks.noSuch("row(1) of one, behind one of three", () -> x.row(1));
        Checks.due("row(0) of one", x.row(0), 7);
        OverTheHill snail = Checks.ruled(Checks.landOf(EdgesOfTermsTests.SNAIL), "u+v");
        snail.way(1, 0, 30);
        Checks.due("row(35) of 36", snail.row(35), 30);
        Checks.noSuch("row(36) of 36", () -> snail.row(36));
    }
}
