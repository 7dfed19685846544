/** Promises 40 to 43: what is kept, counted, and told in the ROW. */
public final class KeptTests {
    private static final String HILL = "~2*/~11/#3*";

    public static void main(String[] args) {
        promise40Keep();
        promise41Again();
        promise41AgainRefused();
        promise42Count();
        promise43Row();
        Checks.finish("KeptTests");
    }

    private static void promise40Keep() {
        OverTheHill x = Checks.landOf(HILL, "10,00");
        Checks.due("keep(-1)", x.keep(-1), false);
        Checks.due("keep(3)", x.keep(3), false);
        for (int i = 0; i < 3; i++) {
            Checks.due("keep(" + i + ")", x.keep(i), true);
            x.hours(1);
        }
        for (int i = 2; i >= 0; i--) {
            x.again(i);
            Checks.due("kept under " + i, x.count(6), i);
        }
        x.hours(7);
        Checks.due("kept anew", x.keep(1), true);
        x.hours(1);
        x.again(1);
        Checks.due("kept anew: hour", x.count(6), 7);
        Checks.due("keep is not undone", x.undo(), -1);
    }

    private static void promise41Again() {
        OverTheHill x = Checks.landOf(HILL, "10,00;4,03");
        x.set(1, 2);
        x.plank(4);
        x.hours(12);
        x.drag(0, 3);
        x.drag(0, 1);
        x.keep(2);
        int[] counts = new int[16];
        for (int what = 0; what < 16; what++) {
            counts[what] = x.count(what);
        }
        x.plank(5);
        x.plank(4);
        x.set(1, 0);
        x.hours(30);
        x.drag(0, 1);
        x.trace(5, 1);
        x.set(0, 300);
        x.sheet(2, 2, 8, 1);
        Checks.ruled(x, "w");
        Checks.due("alarms came", x.count(9), 1);
        Checks.due("again(2)", x.again(2), true);
        for (int what = 4; what <= 11; what++) {
            if (what != 7) {
                Checks.due("again: count(" + what + ")", x.count(what), counts[what]);
            }
        }
        Checks.due("again: planks", x.field(4, 2), 1);
        Checks.due("again: no planks", x.field(5, 2), 0);
        Checks.due("again: where", x.ship(0, 1), 1);
        Checks.due("again: dragged", x.ship(0, 2), 1);
        Checks.due("again: nothing to be undone", x.count(13), 0);
        Checks.due("again: oxen stay", x.count(3), 300);
        Checks.due("again: ear stays", x.count(7), 0);
        Checks.due("again: traces stay", x.count(12), 1);
        Checks.due("again: weights stay", x.ship(0, 0), 8);
        Checks.due("again: THE RULE stays", x.pull(0, 1), 8);
        x.hours(1);
        Checks.due("again, once more", x.again(2), true);
        Checks.due("again, once more: hour", x.count(6), 2);
    }

    private static void promise41AgainRefused() {
        OverTheHill x = Checks.landOf(HILL, "10,00");
        x.hours(1);
        Checks.due("nothing kept", x.again(0), false);
        Checks.due("again(-1)", x.again(-1), false);
        Checks.due("again(3)", x.again(3), false);
        x.keep(0);
        x.keep(1);
        Checks.due("nothing kept under 2", x.again(2), false);
        Checks.tell(x, "").ships();
        Checks.tell(x, "z").ships();
        Checks.due("no ships came", x.again(0), true);
        x.hours(2);
        Checks.tell(x, "4,03").ships();
        x.hours(1);
        Checks.due("ships came since", x.again(0), false);
        Checks.due("ships came since: hour", x.count(6), 4);
        Checks.due("ships came since: to be undone", x.count(13), 1);
        x.keep(0);
        Checks.due("kept since", x.again(0), true);
        Checks.due("not kept since", x.again(1), false);
        Checks.tell(x, HILL).land();
        Checks.due("land anew", x.again(0), false);
        OverTheHill none = new OverTheHill();
        none.keep(0);
        none.hours(3);
        Checks.due("without ships", none.again(0), true);
        Checks.due("without ships: hour", none.count(6), 0);
    }

    private static void promise42Count() {
        OverTheHill x = Checks.landOf("~2*/~11", "10,00;4,03");
        x.set(0, 120);
        x.set(1, 1);
        x.plank(4);
        x.plank(5);
        x.drag(0, 1);
        x.hours(11);
        x.drag(0, 1);
        x.drag(1, 1);
        x.trace(5, 1);
        x.storm(2, 2);
        x.sign(0);
        int[] counts = {2, 3, 2, 120, 14, 1, 1, 1, 0, 1, 2, 1, 1, 6, 3, 4};
        for (int what = 0; what < counts.length; what++) {
            Checks.due("count(" + what + ")", x.count(what), counts[what]);
        }
        for (int what : new int[] {-1, 16, Integer.MIN_VALUE, Integer.MAX_VALUE}) {
            Checks.due("count(" + what + ")", x.count(what), -100);
        }
    }

    private static void promise43Row() {
        OverTheHill x = Checks.landOf("~00000/#####0/000000/0#####/000000/#####*", "1,00");
        Checks.noSuch("row(0) of none", () -> x.row(0));
        x.way(1, 0, 35);
        Checks.rowDue("a long row", x, 0, 1, 2, 3, 4, 5, 11, 17, 16, 15, 14, 13, 12, 18, 24, 25, 26, 27, 28, 29, 35);
        x.pass();
        Checks.rowDue("a row of a long", x, 0b100000111111000001111111100000111111L);
        x.secret(12, 9);
        Checks.rowDue("a row of greater ones", x, 1, 1000000000000L);
        x.undo();
        x.count(14);
        x.pull(0, 1);
        x.soon(1, 0, 5);
        x.over(0);
        x.quiet(0);
        x.told(5, 5);
        Checks.rowDue("calls that tell none leave it", x, 1, 1000000000000L);
        for (int i : new int[] {-1, 2, 36, Integer.MIN_VALUE, Integer.MAX_VALUE}) {
            Checks.noSuch("row(" + i + ")", () -> x.row(i));
        }
    }
}
