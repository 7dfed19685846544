/** Promises 30 to 32: the town that sells both ways, and raids. */
public final class TownTests {
    public static void main(String[] args) {
        promise30Town();
        promise30AllTowns();
        promise31Secret();
        promise32Told();
        Checks.finish("TownTests");
    }

    private static void promise30Town() {
        OverTheHill x = new OverTheHill();
        town(x, 5, 1, 4, 0, 1);
        town(x, 1, 1, 0, 0, 0);
        town(x, 1, 20, 0, 0, 0);
        town(x, 2, 1, 1, 0, 1);
        town(x, 2, 2, 1, 0, 1);
        town(x, 5, 2, 0, 0, 0);
        // 2 is more than the other one can gain by offering 3.
        town(x, 3, 2, 1, 0, 2);
        town(x, 4, 2, 1, 0, 3);
        Checks.due("worth 0", x.town(0, 1), -1);
        Checks.due("worth 61", x.town(61, 1), -1);
        Checks.due("no turns", x.town(5, 0), -1);
        Checks.due("21 turns", x.town(5, 21), -1);
        Checks.rowDue("refused: the row stays", x, 0, 3);
    }

    private static void town(OverTheHill x, int v, int k, int besieger, int other, int first) {
        Checks.due("town(" + v + ", " + k + ")", x.town(v, k), besieger);
        Checks.rowDue("town(" + v + ", " + k + ")", x, other, first);
    }

    private static void promise30AllTowns() {
        OverTheHill x = new OverTheHill();
        PlainHill y = new PlainHill();
        for (int v = 1; v <= 60; v++) {
            for (int k = 1; k <= 20; k++) {
                Checks.due("town(" + v + ", " + k + ")", x.town(v, k), y.town(v, k));
                Checks.due("town(" + v + ", " + k + "): other", x.row(0), y.row(0));
                Checks.due("town(" + v + ", " + k + "): first", x.row(1), y.row(1));
            }
        }
    }

    private static void promise31Secret() {
        OverTheHill x = new OverTheHill();
        secret(x, 0, 5, 1, 1);
        secret(x, 0, 10, 1, 1);
        secret(x, 2, 5, 1, 4);
        secret(x, 1, 0, 1, 1);
        secret(x, 12, 0, 1, 1);
        secret(x, 1, 10, 0, 1);
        secret(x, 12, 10, 0, 1);
        secret(x, 1, 1, 9, 10);
        secret(x, 2, 2, 16, 25);
        secret(x, 12, 1, 282429536481L, 1000000000000L);
        secret(x, 12, 8, 1, 244140625);
        secret(x, 12, 9, 1, 1000000000000L);
        secret(x, 3, 4, 27, 125);
        Checks.due("13 people", x.secret(13, 1), -1);
        Checks.due("-1 people", x.secret(-1, 1), -1);
        Checks.due("11 tenths", x.secret(1, 11), -1);
        Checks.due("-1 tenths", x.secret(1, -1), -1);
        Checks.rowDue("refused: the row stays", x, 27, 125);
    }

    private static void secret(OverTheHill x, int n, int p, long upper, long lower) {
        Checks.due("secret(" + n + ", " + p + ")", x.secret(n, p), 0);
        Checks.rowDue("secret(" + n + ", " + p + ")", x, upper, lower);
    }

    private static void promise32Told() {
        OverTheHill x = new OverTheHill();
        Checks.due("just 1 in 4", x.told(5, 25), 2);
        Checks.due("more than 1 in 4", x.told(5, 26), 1);
        Checks.due("surely, if all may", x.told(10, 1), 0);
        Checks.due("surely, if none may", x.told(0, 100), 12);
        Checks.due("no odds asked for", x.told(10, 0), 12);
        Checks.due("surely, if some may", x.told(1, 100), 0);
        Checks.due("9 in 10", x.told(1, 90), 1);
        Checks.due("81 in 100", x.told(1, 81), 2);
        Checks.due("82 in 100", x.told(1, 82), 1);
        Checks.due("29 in 100", x.told(1, 29), 11);
        Checks.due("28 in 100", x.told(1, 28), 12);
        PlainHill y = new PlainHill();
        for (int p = -1; p <= 11; p++) {
            for (int v = -1; v <= 101; v++) {
                Checks.due("told(" + p + ", " + v + ")", x.told(p, v), y.told(p, v));
            }
        }
    }
}
