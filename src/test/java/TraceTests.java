/** Promises 33 to 36: which ship it was, by traces. */
public final class TraceTests {
    public static void main(String[] args) {
        promise33Trace();
        promise34Forget();
        promise35Fits();
        promise36Ask();
        Checks.finish("TraceTests");
    }

    private static void promise33Trace() {
        OverTheHill x = new OverTheHill();
        Checks.due("weight 0", x.trace(0, 1), -1);
        Checks.due("weight 100", x.trace(100, 1), -1);
        Checks.due("is 2", x.trace(5, 2), -1);
        Checks.due("is -1", x.trace(5, -1), -1);
        Checks.due("none was taken", x.count(12), 0);
        Checks.due("weight 1", x.trace(1, 1), 1);
        Checks.due("weight 99", x.trace(99, 0), 2);
        for (int i = 3; i <= 12; i++) {
            Checks.due("trace " + i, x.trace(50, i % 2), i);
        }
        Checks.due("a thirteenth", x.trace(50, 1), -1);
        Checks.due("twelve stay", x.count(12), 12);
        Checks.due("a trace is not undone", x.undo(), -1);
    }

    private static void promise34Forget() {
        OverTheHill x = Checks.landOf("~", "10,00;20,00");
        Checks.due("none", x.forget(), 0);
        x.trace(15, 1);
        x.trace(18, 0);
        Checks.due("none fit", x.fits(), 0);
        Checks.due("two", x.forget(), 2);
        Checks.due("none are left", x.count(12), 0);
        Checks.due("all fit", x.fits(), 3);
        Checks.due("none again", x.forget(), 0);
        for (int i = 0; i < 12; i++) {
            x.trace(1, 1);
        }
        x.forget();
        Checks.due("room again", x.trace(1, 1), 1);
    }

    private static void promise35Fits() {
        OverTheHill x = Checks.landOf("~", "10,00;20,00;30,00;20,00");
        Checks.due("without traces", x.fits(), 15);
        Checks.rowDue("without traces", x, 4);
        x.trace(20, 1);
        Checks.due("20 or more", x.fits(), 14);
        Checks.rowDue("20 or more", x, 3);
        x.trace(30, 0);
        Checks.due("less than 30", x.fits(), 10);
        Checks.rowDue("less than 30", x, 2);
        x.trace(5, 1);
        x.trace(99, 0);
        Checks.due("wider ones change nothing", x.fits(), 10);
        x.sheet(2, 4, 29, 1);
        Checks.due("by the weights now", x.fits(), 1);
        x.sheet(2, 4, 25, 1);
        Checks.due("by the weights then", x.fits(), 15);
        Checks.tell(x, "21,00").ships();
        Checks.due("ships that come fit, too", x.fits(), 31);
        x.trace(1, 0);
        Checks.due("less than 1", x.fits(), 0);
        Checks.rowDue("less than 1", x, 0);
        OverTheHill fresh = Checks.tell(new OverTheHill(), "1,00;99,00");
        fresh.ships();
        Checks.due("the lightest and the heaviest, in a new object", fresh.fits(), 3);
    }

    private static void promise36Ask() {
        OverTheHill x = Checks.landOf("~", "10,00;4,00");
        Checks.due("two", x.ask(), 5);
        Checks.rowDue("two", x, 1);
        x.trace(5, 1);
        Checks.due("one: the least to ask", x.ask(), 1);
        Checks.rowDue("one: the least to ask", x, 1);
        x.trace(5, 0);
        Checks.due("none fit", x.ask(), -2);
        Checks.rowDue("none fit: the row stays", x, 1);
        Checks.due("no ships", Checks.landOf("~").ask(), -2);
        OverTheHill same = Checks.landOf("~", "7,00;7,00;7,00");
        Checks.due("all alike", same.ask(), 1);
        Checks.rowDue("all alike", same, 3);
        OverTheHill five = Checks.landOf("~", "99,00;1,00;50,00;50,00;98,00");
        Checks.due("five", five.ask(), 51);
        Checks.rowDue("five", five, 3);
        five.trace(50, 1);
        Checks.due("four of them", five.ask(), 51);
        Checks.rowDue("four of them", five, 2);
        five.trace(98, 1);
        Checks.due("two of them", five.ask(), 99);
        Checks.rowDue("two of them", five, 1);
    }
}
