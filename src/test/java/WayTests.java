/** Promises 17 to 23: ways, passes, oxen, and where planks are laid best. */
public final class WayTests {
    private static final String HILL = "~2*/~11/#3*";

    public static void main(String[] args) {
        promise17Way();
        promise17OfAsGoodOnes();
        promise18Easy();
        promise18OfAsGoodOnes();
        promise19Soon();
        wrongWays();
        promise20Pass();
        promise21Oxen();
        promise22Can();
        promise23Planks();
        promise23PlanksRefused();
        Checks.finish("WayTests");
    }

    private static void promise17Way() {
        OverTheHill x = Checks.landOf(HILL, "10,00;4,03");
        Checks.due("way", x.way(10, 0, 2), 21);
        Checks.rowDue("way", x, 0, 3, 4, 1, 2);
        Checks.due("way to the same", x.way(10, 4, 4), 0);
        Checks.rowDue("way to the same", x, 4);
        Checks.due("way back", x.way(10, 2, 0), 21);
        Checks.rowDue("way back", x, 2, 5, 4, 1, 0);
        x.drag(1, 1);
        Checks.due("as if no ships were there", x.way(10, 0, 2), 21);
        x.plank(1);
        Checks.due("over planks", x.way(10, 0, 2), 11);
        Checks.rowDue("over planks", x, 0, 1, 2);
        x.hours(30);
        Checks.due("in rain", x.way(10, 0, 2), 16);
        Checks.ruled(x, "h*10+w");
        x.hours(2);
        Checks.due("by this hour, in rain", x.way(1, 0, 2), 31);
        Checks.due("rock shuts it off", Checks.landOf("~#*").way(1, 0, 2), -2);
        OverTheHill line = Checks.landOf("~/9/0/*");
        Checks.due("in one column", line.way(2, 0, 3), 21);
        Checks.rowDue("in one column", line, 0, 1, 2, 3);
    }

    private static void promise17OfAsGoodOnes() {
        OverTheHill x = Checks.ruled(Checks.landOf("000/000/000"), "5");
        Checks.due("the least row", x.way(1, 0, 8), 5);
        Checks.rowDue("the least row", x, 0, 1, 2, 5, 8);
        Checks.due("the least row back", x.way(1, 8, 0), 5);
        Checks.rowDue("the least row back", x, 8, 5, 2, 1, 0);
        Checks.due("the least row across", x.way(1, 6, 2), 5);
        Checks.rowDue("the least row across", x, 6, 3, 0, 1, 2);
        Checks.ruled(x, "0");
        Checks.due("pulls of 0", x.way(1, 0, 8), 0);
        Checks.rowDue("pulls of 0", x, 0, 1, 2, 5, 8);
        OverTheHill y = Checks.ruled(Checks.landOf("~2~2*/~~3~~"), "u*10");
        Checks.due("the greatest alone counts, then the fewest fields", y.way(1, 0, 4), 20);
        Checks.rowDue("the greatest alone counts, then the fewest fields", y, 0, 1, 2, 3, 4);
        Checks.due("the sum is less on another way", y.easy(1, 0, 4), 30);
        Checks.rowDue("the sum is less on another way", y, 0, 5, 6, 7, 8, 9, 4);
        OverTheHill z = Checks.ruled(Checks.landOf("0000/1991/1111"), "u*10");
        Checks.due("around, with more fields", z.way(1, 4, 7), 0);
        Checks.rowDue("around, with more fields", z, 4, 8, 9, 10, 11, 7);
    }

    private static void promise18Easy() {
        OverTheHill x = Checks.landOf(HILL, "10,00;4,03");
        Checks.due("easy", x.easy(10, 0, 2), 42);
        Checks.rowDue("easy", x, 0, 1, 2);
        Checks.due("easy to the same", x.easy(10, 8, 8), 0);
        Checks.rowDue("easy to the same", x, 8);
        x.plank(4);
        x.plank(5);
        Checks.due("easy over planks", x.easy(60, 3, 2), 41 + 21 + 61);
        Checks.rowDue("easy over planks", x, 3, 4, 5, 2);
        x.drag(0, 1);
        Checks.due("as if no ships were there", x.easy(10, 0, 2), 11 + 7 + 4 + 11);
        Checks.rowDue("as if no ships were there", x, 0, 3, 4, 5, 2);
        x.hours(30);
        Checks.due("in rain, each by itself", x.easy(10, 0, 2), 16 + 10 + 6 + 16);
        Checks.due("rock shuts it off", Checks.landOf("~#*").easy(1, 0, 2), -2);
    }

    private static void promise18OfAsGoodOnes() {
        OverTheHill x = Checks.ruled(Checks.landOf("000/090/000"), "u*5");
        Checks.due("sums of 0: the fewest fields, the least row", x.easy(1, 3, 5), 0);
        Checks.rowDue("sums of 0: the fewest fields, the least row", x, 3, 0, 1, 2, 5);
        Checks.due("sums of 0 down", x.easy(1, 1, 7), 0);
        Checks.rowDue("sums of 0 down", x, 1, 0, 3, 6, 7);
        OverTheHill y = Checks.ruled(Checks.landOf("000/020/000"), "u+1");
        Checks.due("as much with fewer fields", y.easy(1, 3, 5), 4);
        Checks.rowDue("as much with fewer fields", y, 3, 4, 5);
        OverTheHill z = Checks.ruled(Checks.landOf("000/030/000"), "u+1");
        Checks.due("less with more fields", z.easy(1, 3, 5), 4);
        Checks.rowDue("less with more fields", z, 3, 0, 1, 2, 5);
    }

    private static void promise19Soon() {
        OverTheHill x = Checks.landOf(HILL, "10,00");
        x.pass();
        Checks.due("soon", x.soon(10, 0, 2), 2);
        Checks.due("soon to the same", x.soon(10, 0, 0), 0);
        x.set(0, 31);
        Checks.due("as many oxen as the pull", x.soon(10, 0, 2), 2);
        x.drag(0, 1);
        Checks.due("used oxen count too", x.soon(10, 0, 2), 2);
        x.hours(1);
        x.set(0, 30);
        Checks.due("one fewer", x.soon(10, 0, 2), 4);
        x.set(0, 20);
        Checks.due("too few", x.soon(10, 0, 2), -2);
        x.set(0, 0);
        Checks.due("none, to the same", x.soon(10, 0, 0), 0);
        Checks.due("rock shuts it off", Checks.landOf("~#*").soon(1, 0, 2), -2);
        Checks.rowDue("the row stays", x, 0);
    }

    private static void wrongWays() {
        OverTheHill x = Checks.landOf(HILL);
        x.pass();
        int[][] none = {{0, 0, 2}, {100, 0, 2}, {-1, 0, 2}, {5, -1, 2}, {5, 9, 2}, {5, 0, -1}, {5, 0, 9}, {0, 6, 6}, {5, 6, 9}};
        for (int[] a : none) {
            String what = a[0] + ", " + a[1] + ", " + a[2];
            Checks.due("way " + what, x.way(a[0], a[1], a[2]), -1);
            Checks.due("easy " + what, x.easy(a[0], a[1], a[2]), -1);
            Checks.due("soon " + what, x.soon(a[0], a[1], a[2]), -1);
            Checks.due("night " + what, x.night(a[0], a[1], a[2]), -1);
        }
        int[][] rocks = {{5, 6, 0}, {5, 0, 6}, {5, 6, 6}};
        for (int[] a : rocks) {
            String what = a[0] + ", " + a[1] + ", " + a[2];
            Checks.due("way " + what, x.way(a[0], a[1], a[2]), -2);
            Checks.due("easy " + what, x.easy(a[0], a[1], a[2]), -2);
            Checks.due("soon " + what, x.soon(a[0], a[1], a[2]), -2);
            Checks.due("night " + what, x.night(a[0], a[1], a[2]), -2);
        }
        Checks.rowDue("wrong ways: the row stays", x, 317);
        for (int weight : new int[] {1, 99}) {
            Checks.due("the edges of weights", x.way(weight, 0, 3), weight + 1);
        }
    }

    private static void promise20Pass() {
        OverTheHill x = Checks.landOf(HILL);
        Checks.due("pass", x.pass(), 1);
        Checks.rowDue("pass", x, 317);
        Checks.due("no harbour", Checks.landOf("~1~").pass(), -2);
        Checks.due("no sea", Checks.landOf("*1*").pass(), -2);
        Checks.due("rock between", Checks.landOf("~#*").pass(), -2);
        x = Checks.landOf("~*");
        Checks.due("sea beside harbour", x.pass(), 0);
        Checks.rowDue("sea beside harbour", x, 3);
        x = Checks.landOf("~9*");
        Checks.due("the highest", x.pass(), 9);
        Checks.rowDue("the highest", x, 7);
        x = Checks.landOf("~3*3~/####5/~2#2*");
        Checks.due("two passes as low, others shut off", x.pass(), 3);
        Checks.rowDue("two passes as low, others shut off", x, 31);
        x = Checks.landOf("~2*#2/##9#~/~1###");
        Checks.due("dead ends on both sides count, other waters not", x.pass(), 2);
        Checks.rowDue("dead ends on both sides count, other waters not", x, 7);
        x = Checks.landOf("1~02*3");
        Checks.due("fields on no higher ways", x.pass(), 2);
        Checks.rowDue("fields on no higher ways", x, 31);
        x = Checks.landOf("~00000/000000/000000/000000/000000/00000*");
        Checks.due("all fields", x.pass(), 0);
        Checks.rowDue("all fields", x, (1L << 36) - 1);
    }

    private static void promise21Oxen() {
        OverTheHill x = Checks.landOf(HILL, "10,00;4,03");
        Checks.due("oxen", x.oxen(0), 21);
        Checks.rowDue("oxen", x, 2);
        Checks.due("oxen of the other", x.oxen(1), 9);
        Checks.rowDue("oxen of the other", x, 2);
        Checks.due("ship 2", x.oxen(2), -1);
        Checks.due("ship -1", x.oxen(-1), -1);
        Checks.rowDue("no such ship: the row stays", x, 2);
        x.drag(0, 1);
        Checks.due("from where it is", x.oxen(0), 11);
        x.hours(1);
        x.drag(0, 1);
        Checks.due("in the harbour", x.oxen(0), 0);
        Checks.rowDue("in the harbour", x, 2);
        Checks.due("as if no ships were there", x.oxen(1), 9);
        OverTheHill y = Checks.landOf("*3~1*", "2,02");
        Checks.due("the best of all harbours", y.oxen(0), 5);
        Checks.rowDue("the best of all harbours", y, 4);
        y = Checks.landOf("*1~1*", "2,02");
        Checks.due("of as good ones the first", y.oxen(0), 5);
        Checks.rowDue("of as good ones the first", y, 0);
        y = Checks.ruled(Checks.landOf("**~", "2,02"), "0");
        y.drag(0, 3);
        Checks.due("in the harbour, and as good a one ahead of it", y.oxen(0), 0);
        Checks.rowDue("in the harbour, and as good a one ahead of it", y, 0);
        y = Checks.ruled(Checks.landOf("~*", "2,00"), "999");
        y.hours(30);
        Checks.due("more than there can be", y.oxen(0), 1498);
        Checks.due("by none", Checks.landOf("~#*", "1,00").oxen(0), -2);
    }

    private static void promise22Can() {
        OverTheHill x = Checks.landOf(HILL, "10,00;4,03;20,00");
        Checks.due("all can", x.can(), 7);
        Checks.rowDue("all can", x, 3);
        x.set(0, 21);
        Checks.due("two can", x.can(), 3);
        Checks.rowDue("two can", x, 2);
        x.set(0, 20);
        Checks.due("the light one can", x.can(), 2);
        x.set(0, 0);
        Checks.due("none can", x.can(), 0);
        Checks.rowDue("none can", x, 0);
        x.set(0, 100);
        x.drag(0, 1);
        x.hours(1);
        x.drag(0, 1);
        x.hours(1);
        x.set(0, 0);
        Checks.due("one in the harbour", x.can(), 1);
        Checks.due("no ships", Checks.landOf(HILL).can(), 0);
        OverTheHill used = Checks.landOf("~*~", "10,00;10,02");
        used.set(0, 11);
        used.drag(0, 1);
        Checks.due("used oxen count too", used.can(), 3);
    }

    private static void promise23Planks() {
        OverTheHill x = Checks.landOf(HILL, "10,00");
        Checks.due("no more", x.planks(10, 0), 21);
        Checks.rowDue("no more", x, 0);
        Checks.due("one more", x.planks(10, 1), 11);
        Checks.rowDue("one more", x, 2);
        Checks.due("two more, of as good ones the least", x.planks(10, 2), 11);
        Checks.rowDue("two more, of as good ones the least", x, 18);
        x.plank(1);
        Checks.due("behind one that is laid", x.planks(10, 0), 11);
        Checks.due("behind one that is laid: one more", x.planks(10, 1), 11);
        Checks.rowDue("behind one that is laid: one more", x, 16);
        Checks.due("nothing is laid", x.count(10), 1);
        OverTheHill two = Checks.landOf("~5*/~37/~69");
        Checks.due("two hills, one behind the other", two.planks(9, 2), 13);
        Checks.rowDue("two hills, one behind the other", two, 18);
        Checks.due("two hills, the first alone", two.planks(9, 1), 19);
        Checks.rowDue("two hills, the first alone", two, 2);
        OverTheHill first = Checks.landOf("3*/~#");
        Checks.due("at field 0", first.planks(3, 1), 5);
        Checks.rowDue("at field 0", first, 1);
        OverTheHill both = Checks.landOf("33*/~##");
        Checks.due("at fields 0 and 1", both.planks(9, 2), 13);
        Checks.rowDue("at fields 0 and 1", both, 3);
        OverTheHill worse = Checks.ruled(Checks.landOf("~11*/####/00~#"), "1+g*9+u");
        Checks.due("planks that make it worse are laid elsewhere", worse.planks(1, 1), 2);
        Checks.rowDue("planks that make it worse are laid elsewhere", worse, 256);
        Checks.due("two of them", worse.planks(1, 2), 2);
        Checks.rowDue("two of them", worse, 256 + 512);
        x.hours(30);
        Checks.due("in rain", x.planks(10, 1), 16);
    }

    private static void promise23PlanksRefused() {
        OverTheHill x = Checks.landOf("~1*");
        x.pass();
        Checks.due("k 3", x.planks(5, 3), -1);
        Checks.due("k -1", x.planks(5, -1), -1);
        Checks.due("weight 0", x.planks(0, 1), -1);
        Checks.due("weight 100", x.planks(100, 1), -1);
        Checks.due("weight 0, too many", x.planks(0, 2), -1);
        Checks.due("not so many fields", x.planks(5, 2), -2);
        x.plank(1);
        Checks.due("not so many fields without any", x.planks(5, 1), -2);
        Checks.rowDue("refused: the row stays", x, 7);
        Checks.due("none more", x.planks(5, 0), 6);
        Checks.due("no way", Checks.landOf("~1#1*").planks(5, 1), -2);
        Checks.due("no sea", Checks.landOf("*11").planks(5, 1), -2);
        Checks.due("no harbour", Checks.landOf("~11").planks(5, 0), -2);
    }
}
