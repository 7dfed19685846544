/** Two sieges alike, of which one is asked something and the other is not: what has changed shows between them. */
final class Twin {
    /** Field 1 is land (2), 2 harbour, 4 and 5 land (1), 6 rock, 7 land (3), 8 harbour, 0 and 3 sea. */
    static final String HILL = "~2*/~11/#3*";

    interface Act {
        long on(OverTheHill x);
    }

    private Twin() {
    }

    /** All that a siege can hold is other than at first: THE RULE, planks, traces, what is kept, the row too. */
    static OverTheHill underWay() {
        OverTheHill x = Checks.ruled(Checks.landOf(HILL, "40,00;24,03;7,00"), "w+u*3+v+g+h");
        x.set(0, 120);
        x.set(1, 0);
        x.plank(4);
        x.keep(0);
        x.drag(0, 1);
        x.hours(11);
        x.drag(1, 1);
        x.drag(0, 1);
        x.keep(2);
        x.plank(5);
        x.trace(5, 1);
        x.trace(35, 0);
        x.storm(2, 2);
        return x;
    }

    /** A call that does not read THE TEXT: nothing changes, THE TEXT neither. */
    static void refused(String call, Act act, long due) {
        OverTheHill x = Checks.tell(underWay(), "~2*");
        OverTheHill y = Checks.tell(underWay(), "~2*");
        Checks.due(call, act.on(x), due);
        same(call, x, y, true);
    }

    /** A call that reads THE TEXT: nothing changes, but THE TEXT is empty. */
    static void refusedText(String call, String text, Act act, long due) {
        OverTheHill x = Checks.tell(underWay(), text);
        Checks.due(call + " of " + text, act.on(x), due);
        Checks.due(call + " of " + text + ": signs", x.count(15), 0);
        same(call + " of " + text, x, underWay(), true);
    }

    /** A question: nothing changes but the row, and THE TEXT if it is read. */
    static void asked(String call, String text, Act act) {
        OverTheHill x = Checks.tell(underWay(), text);
        act.on(x);
        OverTheHill y = Checks.tell(underWay(), text);
        y.end(x.count(15));
        same(call, x, y, false);
    }

    /** Looks into both till nothing is left to be undone: they are of no more use then. */
    private static void same(String call, OverTheHill x, OverTheHill y, boolean rowToo) {
        for (int what = 0; what <= 15; what++) {
            if (rowToo || what != 14) {
                Checks.due(call + ": count(" + what + ")", x.count(what), y.count(what));
            }
        }
        for (int i = 0; rowToo && i < x.count(14) && i < y.count(14); i++) {
            Checks.due(call + ": row(" + i + ")", x.row(i), y.row(i));
        }
        for (int ship = 0; ship < 3; ship++) {
            Checks.due(call + ": weight of " + ship, x.ship(ship, 0), y.ship(ship, 0));
            for (int heading = 0; heading < 4; heading++) {
                Checks.due(call + ": pull(" + ship + ", " + heading + ")", x.pull(ship, heading), y.pull(ship, heading));
            }
        }
        for (int field = 0; field < 9; field++) {
            Checks.due(call + ": kind of " + field, x.field(field, 0), y.field(field, 0));
            Checks.due(call + ": height of " + field, x.field(field, 1), y.field(field, 1));
        }
        Checks.due(call + ": fits()", x.fits(), y.fits());
        sameMoment(call, x, y);
        while (y.count(13) > 0) {
            Checks.due(call + ": undo()", x.undo(), y.undo());
            sameMoment(call + ", undone", x, y);
        }
        for (int i = 0; i < 3; i++) {
            Checks.due(call + ": again(" + i + ")", x.again(i), y.again(i));
            sameMoment(call + ", had again", x, y);
        }
    }

    private static void sameMoment(String call, OverTheHill x, OverTheHill y) {
        for (int what = 4; what <= 11; what++) {
            Checks.due(call + ": count(" + what + ")", x.count(what), y.count(what));
        }
        for (int ship = 0; ship < 3; ship++) {
            Checks.due(call + ": where " + ship + " is", x.ship(ship, 1), y.ship(ship, 1));
            Checks.due(call + ": dragged " + ship, x.ship(ship, 2), y.ship(ship, 2));
        }
        for (int field : new int[] {1, 4, 5, 7}) {
            Checks.due(call + ": planks at " + field, x.field(field, 2), y.field(field, 2));
        }
    }
}
