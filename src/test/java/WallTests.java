/** Promises 28 and 29: men on walls, and storms. */
public final class WallTests {
    public static void main(String[] args) {
        promise28Walls();
        promise28WallsRefused();
        promise28AllWalls();
        promise29Storm();
        promise29AllStorms();
        Checks.finish("WallTests");
    }

    private static void promise28Walls() {
        walls("12", 6, 200, 2, 4);
        walls("12", 5, 150, 2, 3);
        walls("9", 0, 0, 0);
        walls("9", 99, 1100, 99);
        walls("1", 99, 9900, 99);
        walls("1111", 99, 2400, 24, 24, 24, 27);
        walls("1111", 3, 0, 0, 0, 0, 3);
        walls("1111", 4, 100, 1, 1, 1, 1);
        walls("33", 5, 66, 2, 3);
        walls("91", 10, 100, 9, 1);
        walls("19", 10, 100, 1, 9);
        walls("91", 9, 88, 8, 1);
        walls("9999", 0, 0, 0, 0, 0, 0);
    }

    private static void walls(String yards, int men, int share, long... row) {
        OverTheHill x = Checks.tell(new OverTheHill(), yards);
        Checks.due(men + " on " + yards, x.walls(men), share);
        Checks.rowDue(men + " on " + yards, x, row);
        Checks.due(men + " on " + yards + ": signs", x.count(15), 0);
    }

    private static void promise28WallsRefused() {
        badWalls("12", 100, -100);
        badWalls("12", -1, -100);
        badWalls("x", 100, -100);
        badWalls("", 100, -100);
        badWalls("", 5, -1);
        badWalls("0", 5, -1);
        badWalls("x", 5, -1);
        badWalls("1x", 5, -2);
        badWalls("10", 5, -2);
        badWalls("12345", 5, -5);
        badWalls("1234x", 5, -5);
        badWalls("123x5", 5, -4);
        badWalls("12345678", 5, -5);
        badWalls("12" + (char) 0, 5, -3);
    }

    private static void badWalls(String yards, int men, int answer) {
        OverTheHill x = new OverTheHill();
        x.kind(0, 50);
        Checks.tell(x, yards);
        Checks.due(men + " on " + yards, x.walls(men), answer);
        Checks.rowDue(men + " on " + yards, x, 5);
        Checks.due(men + " on " + yards + ": signs", x.count(15), 0);
    }

    private static void promise28AllWalls() {
        OverTheHill x = new OverTheHill();
        PlainHill y = new PlainHill();
        for (int yards = 11; yards <= 99; yards++) {
            for (int men = 0; men <= 99; men += 3) {
                int v = (yards / 10 + '0') << 24 | (yards % 10 + '0') << 16;
                x.sign(v);
                x.end(2);
                y.sign(v);
                y.end(2);
                Checks.due(men + " on " + yards, x.walls(men), y.walls(men));
                for (int i = 0; i < y.count(14); i++) {
                    Checks.due(men + " on " + yards + ": row(" + i + ")", x.row(i), y.row(i));
                }
            }
        }
    }

    private static void promise29Storm() {
        OverTheHill x = new OverTheHill();
        Checks.due("2, 2, 2", x.storm(2, 2), 3);
        Checks.rowDue("2, 2, 2", x, 0, 3, 1);
        Checks.due("6, 0, 0", x.storm(6, 0), 15);
        Checks.rowDue("6, 0, 0", x, 0, 1, 1);
        Checks.due("0, 0, 6", x.storm(0, 0), 15);
        Checks.rowDue("0, 0, 6", x, 1, 1, 1);
        Checks.due("1, 1, 4", x.storm(1, 1), 6);
        Checks.rowDue("1, 1, 4", x, 2, 2, 1);
        x.kind(0, 50);
        Checks.due("a below 0", x.storm(-1, 3), -1);
        Checks.due("b below 0", x.storm(3, -1), -1);
        Checks.due("together 7", x.storm(3, 4), -1);
        Checks.due("a 7", x.storm(7, 0), -1);
        Checks.due("b 7", x.storm(0, 7), -1);
        Checks.due("sums that wrap", x.storm(Integer.MAX_VALUE, Integer.MAX_VALUE), -1);
        Checks.rowDue("refused: the row stays", x, 5);
    }

    private static void promise29AllStorms() {
        OverTheHill x = new OverTheHill();
        PlainHill y = new PlainHill();
        for (int a = 0; a <= 6; a++) {
            for (int b = 0; b <= 6 - a; b++) {
                Checks.due("storm " + a + ", " + b, x.storm(a, b), y.storm(a, b));
                Checks.rowDue("storm " + a + ", " + b, x, y.row(0), y.row(1), y.row(2));
            }
        }
    }
}
