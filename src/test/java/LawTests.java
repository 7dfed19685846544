/** Promises 37 to 39: other laws, rests, sieges drawn by a seed. */
public final class LawTests {
    private static final String HILL = "~2*/~11/#3*";

    public static void main(String[] args) {
        promise37Law();
        promise37LawRefused();
        promise38Rests();
        promise38AllRests();
        promise39Sieges();
        promise39Alone();
        promise39Drawn();
        Checks.finish("LawTests");
    }

    private static void promise37Law() {
        OverTheHill x = Checks.landOf(HILL, "10,00;4,03");
        Checks.due("a dear law", Checks.tell(x, "w*30").law(1), 61 - 3);
        Checks.rowDue("a dear law", x, 61, 3);
        Checks.due("a dear law: signs", x.count(15), 0);
        Checks.due("THE RULE stays", x.pull(0, 1), 31);
        x.set(0, 30);
        Checks.due("a cheap law", Checks.tell(x, "w").law(0), 2 - 4);
        Checks.rowDue("a cheap law", x, 2, 4);
        Checks.due("none, as THE RULE is none", Checks.tell(x, "").law(0), 0);
        Checks.rowDue("none, as THE RULE is none", x, 4, 4);
        Checks.ruled(x, "999");
        Checks.due("THE RULE is never over", Checks.tell(x, "").law(0), 4 - 61);
        Checks.rowDue("THE RULE is never over", x, 4, 61);
        Checks.due("neither is", Checks.tell(x, "998").law(0), 0);
        Checks.rowDue("neither is", x, 61, 61);
        Checks.due("a law of hours", Checks.tell(x, "(h<5)*999").law(0), 7 - 61);
        OverTheHill over = Checks.landOf("~*", "1,00");
        over.drag(0, 1);
        Checks.due("it is over", Checks.tell(over, "999").law(0), 0);
        Checks.rowDue("it is over", over, 0, 0);
    }

    private static void promise37LawRefused() {
        badLaw("z", 0, -10000);
        badLaw("w+", 0, -10002);
        badLaw("1234", 0, -10003);
        badLaw("1<2<3", 0, -10003);
        badLaw("(((((1)))))", 0, -10004);
        badLaw("-".repeat(41) + "1", 0, -10040);
        badLaw("w", 2, -20000);
        badLaw("w", -1, -20000);
        badLaw("z", 2, -20000);
        badLaw("", 2, -20000);
    }

    private static void badLaw(String text, int ship, int answer) {
        OverTheHill x = Checks.ruled(Checks.landOf(HILL, "10,00;4,03"), "w+7");
        x.pass();
        Checks.due("law of " + text, Checks.tell(x, text).law(ship), answer);
        Checks.due("law of " + text + ": signs", x.count(15), 0);
        Checks.due("law of " + text + ": THE RULE stays", x.pull(0, 1), 17);
        Checks.rowDue("law of " + text, x, 317);
    }

    private static void promise38Rests() {
        OverTheHill x = new OverTheHill();
        Checks.due("men for nothing", x.rests(5, 0), 10);
        Checks.rowDue("men for nothing", x, 9, 0);
        // A man costs more than all there is: nobody sends any.
        Checks.due("dear men", x.rests(5, 6), 1);
        Checks.rowDue("dear men", x, 0, 0);
        Checks.due("men as dear: one of the stormers' changes nothing", x.rests(5, 5), 2);
        Checks.rowDue("men as dear", x, 0, 0);
        Checks.due("no rest", x.rests(5, 1), 0);
        Checks.rowDue("no rest: nothing", x);
        Checks.due("no rest: numbers", x.count(14), 0);
        x.kind(0, 50);
        Checks.due("v 0", x.rests(0, 0), -1);
        Checks.due("v 100", x.rests(100, 0), -1);
        Checks.due("c -1", x.rests(5, -1), -1);
        Checks.due("c 21", x.rests(5, 21), -1);
        Checks.rowDue("refused: the row stays", x, 5);
    }

    private static void promise38AllRests() {
        OverTheHill x = new OverTheHill();
        PlainHill y = new PlainHill();
        for (int v = 1; v <= 99; v++) {
            for (int c = 0; c <= 20; c++) {
                Checks.due("rests(" + v + ", " + c + ")", x.rests(v, c), y.rests(v, c));
                Checks.due("rests(" + v + ", " + c + "): numbers", x.count(14), y.count(14));
                for (int i = 0; i < y.count(14) && i < x.count(14); i++) {
                    Checks.due("rests(" + v + ", " + c + "): row(" + i + ")", x.row(i), y.row(i));
                }
            }
        }
    }

    private static void promise39Sieges() {
        OverTheHill x = Checks.landOf(HILL);
        x.pass();
        Checks.due("no ships", x.sieges(1, 1), -2);
        Checks.due("no ships, another n", x.sieges(1, 0), -2);
        Checks.tell(x, "10,00;4,03").ships();
        Checks.due("n 0", x.sieges(1, 0), -1);
        Checks.due("n -1", x.sieges(1, -1), -1);
        Checks.due("n 100", x.sieges(1, 100), -1);
        Checks.rowDue("refused: the row stays", x, 317);
        x.plank(4);
        x.drag(0, 1);
        x.keep(0);
        int first = x.sieges(77, 99);
        Checks.due("the same again", x.sieges(77, 99), first);
        int[] counts = {3, 3, 2, 100, 31, 0, 0, 50, 3, 0, 1, 0, 0, 2, 2, 0};
        for (int what = 0; what < counts.length; what++) {
            Checks.due("nothing changes: count(" + what + ")", x.count(what), counts[what]);
        }
        Checks.due("nothing changes: where", x.ship(0, 1), 1);
        Checks.due("nothing changes: dragged", x.ship(0, 2), 1);
        Checks.due("nothing changes: undo()", x.undo(), 1);
        Checks.due("nothing changes: planks", x.field(4, 2), 1);
    }

    private static void promise39Alone() {
        OverTheHill x = Checks.landOf("~~", "10,00");
        x.set(0, 11);
        // Sideways or not, each hour one drag at most; 11 oxen are just enough.
        Checks.due("one ship, just enough oxen", x.sieges(5, 99) > 0, true);
        x.set(1, 0);
        x.drag(0, 1);
        x.hours(1);
        Checks.due("an alarm ahead of it", x.count(9), 1);
        x.set(1, 999);
        x.sieges(5, 99);
        Checks.rowDue("alarms by these alone", x, 0, 0);
    }

    /** Draws by themselves: which ship, which heading, done by the calls of the face. */
    private static void promise39Drawn() {
        int[] seeds = {0, 1, 2, 12345, -1, Integer.MIN_VALUE, Integer.MAX_VALUE, 987654321, -55555};
        for (int seed : seeds) {
            for (int n : new int[] {1, 2, 3, 4, 30, 99}) {
                OverTheHill x = Checks.landOf(HILL, "10,00;4,03;7,00;1,03;2,03");
                x.set(1, 0);
                x.set(0, 60);
                OverTheHill y = Checks.landOf(HILL, "10,00;4,03;7,00;1,03;2,03");
                y.set(1, 0);
                y.set(0, 60);
                long r = seed & 0xffffffffL;
                int dragged = 0;
                for (int i = 1; i <= n; i++) {
                    r = r * 1103515245L + 12345 & 0xffffffffL;
                    int ship = (int) (r / 65536 % 5);
                    r = r * 1103515245L + 12345 & 0xffffffffL;
                    int heading = (int) (r / 65536 % 4);
                    dragged += y.drag(ship, heading) >= 0 ? 1 : 0;
                    if (i % 3 == 0) {
                        y.hours(1);
                    }
                }
                Checks.due("sieges(" + seed + ", " + n + ")", x.sieges(seed, n), dragged);
                Checks.rowDue("sieges(" + seed + ", " + n + ")", x, Integer.bitCount(y.count(11)), y.count(9));
            }
        }
    }
}
