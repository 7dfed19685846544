/** Promises 17 to 27: each sentence that names an edge has a test here, with its words ahead of it. */
public final class EdgesOfWaysTests {
    private static final String HILL = Twin.HILL;
    private static final String SNAIL = EdgesOfTermsTests.SNAIL;
    private static final long[] SNAIL_WAY = {
        0, 1, 2, 3, 4, 5, 11, 10, 9, 8, 7, 6, 12, 13, 14, 15, 16, 17,
        23, 22, 21, 20, 19, 18, 24, 25, 26, 27, 28, 29, 35, 34, 33, 32, 31, 30};

    public static void main(String[] args) throws Exception {
        Checks.runEach(EdgesOfWaysTests.class);
    }

    private interface Ask {
        long of(OverTheHill x, int weight, int from, int to);
    }

    /** Weights that are none, and FIELDS that are none: NONE, rock or not. */
    private static void noneOfThese(String call, Ask ask) {
        int[][] none = {
            {0, 0, 2}, {100, 0, 2}, {-1, 0, 2}, {Integer.MIN_VALUE, 0, 2}, {Integer.MAX_VALUE, 0, 2},
            {5, -1, 2}, {5, 9, 2}, {5, 36, 2}, {5, Integer.MIN_VALUE, 2}, {5, Integer.MAX_VALUE, 2},
            {5, 0, -1}, {5, 0, 9}, {5, 0, 36}, {5, 0, Integer.MIN_VALUE}, {5, 0, Integer.MAX_VALUE},
            {0, 6, 6}, {5, 6, 9}, {5, -1, 6}};
        for (int[] a : none) {
            String told = call + "(" + a[0] + ", " + a[1] + ", " + a[2] + ")";
            Twin.refused(told, x -> ask.of(x, a[0], a[1], a[2]), -1);
        }
    }

    /** "one is ROCK", or there is none: -2. */
    private static void noWay(String call, Ask ask) {
        Twin.refused(call + " from rock", x -> ask.of(x, 5, 6, 0), -2);
        Twin.refused(call + " to rock", x -> ask.of(x, 5, 0, 6), -2);
        Twin.refused(call + " from rock to itself", x -> ask.of(x, 5, 6, 6), -2);
        OverTheHill x = Checks.landOf("~#*");
        x.storm(2, 2);
        Checks.due(call + ", rock between", ask.of(x, 5, 0, 2), -2);
        Checks.rowDue(call + ", rock between", x, 0, 3, 1);
    }

    /** Weights of 1 and 99 are some. */
    private static void edgesOfWeights(String call, Ask ask, long light, long heavy) {
        OverTheHill x = Checks.landOf("~9");
        Checks.due(call + " of 1", ask.of(x, 1, 0, 1), light);
        Checks.due(call + " of 99", ask.of(x, 99, 0, 1), heavy);
    }

    // ---- ways: "as if no SHIPS were there, by PULL of this NIGHT and HOUR, PLANKS as they are"

    private static void promise17AsIfNoShipsWereThere() {
        OverTheHill x = Checks.landOf("~1*", "10,00");
        x.drag(0, 1);
        Checks.due("way", x.way(10, 0, 2), 21);
        Checks.rowDue("way", x, 0, 1, 2);
        Checks.due("easy", x.easy(10, 0, 2), 32);
        Checks.due("soon", x.soon(10, 0, 2), 2);
        Checks.due("planks", x.planks(10, 0), 21);
    }

    private static void promise17OfThisNightAndHour() {
        OverTheHill x = Checks.ruled(Checks.landOf("~1*"), "h*10+g");
        x.hours(9);
        Checks.due("hour 9", x.way(1, 0, 2), 90);
        x.hours(1);
        Checks.due("hour 0", x.way(1, 0, 2), 0);
        x.plank(1);
        Checks.due("planks", x.way(1, 0, 2), 1);
        x.hours(22);
        Checks.due("hour 2 of rain: easy", x.easy(1, 0, 2), 31 + 30);
    }

    private static void promise17OverLandSeaAndHarbour() {
        OverTheHill x = Checks.landOf("1~*1");
        Checks.due("way", x.way(3, 0, 3), 7);
        Checks.rowDue("way", x, 0, 1, 2, 3);
    }

    // ---- 17: way

    /** "The way from a FIELD to another one, or the same" ".. (0 for the same)" */
    private static void promise17TheSame() {
        OverTheHill x = Checks.ruled(Checks.landOf(HILL), "999");
        for (int field : new int[] {0, 1, 2, 8}) {
            Checks.due("from " + field, x.way(5, field, field), 0);
            Checks.rowDue("from " + field, x, field);
        }
        OverTheHill alone = Checks.landOf("#1#/###");
        Checks.due("alone", alone.way(99, 1, 1), 0);
        Checks.rowDue("alone", alone, 1);
    }

    /** "on which the greatest PULL is the least": not the sum, not the FIELDS. */
    private static void promise17GreatestIsLeast() {
        OverTheHill x = Checks.ruled(Checks.landOf("0000/1991/1111"), "u*10");
        Checks.due("around", x.way(1, 4, 7), 0);
        Checks.rowDue("around", x, 4, 8, 9, 10, 11, 7);
    }

    /** "the ROW: the FIELDS in turn, both too": 36 at most, 2 for neighbours. */
    private static void promise17AllFields() {
        OverTheHill x = Checks.ruled(Checks.landOf(SNAIL), "u+v");
        Checks.due("over all", x.way(1, 0, 30), 1);
        Checks.rowDue("over all", x, SNAIL_WAY);
        Checks.due("to a neighbour", x.way(1, 0, 1), 1);
        Checks.rowDue("to a neighbour", x, 0, 1);
        x.way(1, 30, 0);
        Checks.due("back over all: numbers", x.count(14), 36);
        for (int i = 0; i < 36; i++) {
            Checks.due("back over all: row(" + i + ")", x.row(i), SNAIL_WAY[35 - i]);
        }
    }

    /** "of as good ones the fewest FIELDS, .." */
    private static void promise17FewestFields() {
        OverTheHill x = Checks.ruled(Checks.landOf("000/090/000"), "9");
        Checks.due("across", x.way(1, 3, 5), 9);
        Checks.rowDue("across", x, 3, 4, 5);
        Checks.ruled(x, "0");
        Checks.due("pulls of 0", x.way(1, 3, 5), 0);
        Checks.rowDue("pulls of 0", x, 3, 4, 5);
    }

    /** ".. then the least row" */
    private static void promise17LeastRow() {
        OverTheHill x = Checks.ruled(Checks.landOf("000/000/000"), "9");
        x.way(1, 0, 8);
        Checks.rowDue("from the first", x, 0, 1, 2, 5, 8);
        x.way(1, 8, 0);
        Checks.rowDue("from the last", x, 8, 5, 2, 1, 0);
        x.way(1, 2, 6);
        Checks.rowDue("from 2", x, 2, 1, 0, 3, 6);
        x.way(1, 6, 2);
        Checks.rowDue("from 6", x, 6, 3, 0, 1, 2);
    }

    /** "-2: none, or one is ROCK" */
    private static void promise17NoWay() {
        noWay("way", (x, w, a, b) -> x.way(w, a, b));
    }

    /** "NONE: others." */
    private static void promise17Others() {
        noneOfThese("way", (x, w, a, b) -> x.way(w, a, b));
        edgesOfWeights("way", (x, w, a, b) -> x.way(w, a, b), 11, 991);
    }

    /** The greatest PULL there can be is a way's, too. */
    private static void promise17GreatestPull() {
        OverTheHill x = Checks.ruled(Checks.landOf("~*"), "999");
        Checks.due("999", x.way(1, 0, 1), 999);
        x.hours(30);
        Checks.due("1498", x.way(1, 0, 1), 1498);
        Checks.rowDue("1498", x, 0, 1);
    }

    // ---- 18: easy

    /** "The way on which all PULLS together are the least: how much" */
    private static void promise18SumIsLeast() {
        OverTheHill x = Checks.ruled(Checks.landOf("000/030/000"), "u+1");
        Checks.due("around", x.easy(1, 3, 5), 4);
        Checks.rowDue("around", x, 3, 0, 1, 2, 5);
        OverTheHill y = Checks.ruled(Checks.landOf("~00000/#####0/000000/0#####/000000/#####*"), "999");
        y.hours(30);
        Checks.due("twenty of the greatest", y.easy(1, 0, 35), 20 * 1498);
        Checks.rowDue("twenty of the greatest", y,
                0, 1, 2, 3, 4, 5, 11, 17, 16, 15, 14, 13, 12, 18, 24, 25, 26, 27, 28, 29, 35);
    }

    /** 0 for the same, its FIELD alone. */
    private static void promise18TheSame() {
        OverTheHill x = Checks.ruled(Checks.landOf(HILL), "999");
        Checks.due("the same", x.easy(5, 4, 4), 0);
        Checks.rowDue("the same", x, 4);
        Checks.ruled(x, "0");
        Checks.due("the same, pulls of 0", x.easy(5, 4, 4), 0);
        Checks.rowDue("the same, pulls of 0", x, 4);
    }

    /** "the FIELDS in turn": 36 at most. */
    private static void promise18AllFields() {
        OverTheHill x = Checks.ruled(Checks.landOf(SNAIL), "(u+v>1)*99+1");
        Checks.due("over all", x.easy(1, 0, 30), 35);
        Checks.rowDue("over all", x, SNAIL_WAY);
    }

    /** "of as good ones the fewest FIELDS, .." */
    private static void promise18FewestFields() {
        OverTheHill x = Checks.ruled(Checks.landOf("000/020/000"), "u+1");
        Checks.due("as much over the hill", x.easy(1, 3, 5), 4);
        Checks.rowDue("as much over the hill", x, 3, 4, 5);
        Checks.ruled(x, "0");
        Checks.due("pulls of 0", x.easy(1, 3, 5), 0);
        Checks.rowDue("pulls of 0", x, 3, 4, 5);
    }

    /** ".. then the least row" */
    private static void promise18LeastRow() {
        OverTheHill x = Checks.ruled(Checks.landOf("000/000/000"), "9");
        x.easy(1, 0, 8);
        Checks.rowDue("from the first", x, 0, 1, 2, 5, 8);
        x.easy(1, 8, 0);
        Checks.rowDue("from the last", x, 8, 5, 2, 1, 0);
        x.easy(1, 6, 2);
        Checks.rowDue("from 6", x, 6, 3, 0, 1, 2);
    }

    /** "-2, NONE: likewise." */
    private static void promise18Likewise() {
        noWay("easy", (x, w, a, b) -> x.easy(w, a, b));
        noneOfThese("easy", (x, w, a, b) -> x.easy(w, a, b));
        edgesOfWeights("easy", (x, w, a, b) -> x.easy(w, a, b), 11, 991);
    }

    // ---- 19: soon

    /** "each no more than OXEN" */
    private static void promise19NoMoreThanOxen() {
        OverTheHill x = Checks.landOf("~2*/000");
        x.set(0, 31);
        Checks.due("31 for 31", x.soon(10, 0, 2), 2);
        x.set(0, 30);
        Checks.due("30 for 31: around", x.soon(10, 0, 2), 4);
        x.set(0, 11);
        Checks.due("11 for 11", x.soon(10, 0, 2), 4);
        x.set(0, 10);
        Checks.due("10 for 11", x.soon(10, 0, 2), -2);
        Checks.due("10, to the same", x.soon(10, 0, 0), 0);
        Checks.ruled(x, "0");
        x.set(0, 0);
        Checks.due("0 for 0", x.soon(10, 0, 2), 2);
    }

    /** "OXEN", not such as are not USED. */
    private static void promise19UsedOxenToo() {
        OverTheHill x = Checks.landOf("~~*", "10,00");
        x.set(0, 11);
        x.drag(0, 1);
        Checks.due("all are used", x.soon(10, 0, 2), 2);
    }

    /** "The fewest PULLS": 35 over all FIELDS. */
    private static void promise19AllFields() {
        OverTheHill x = Checks.ruled(Checks.landOf(SNAIL), "u+v");
        x.set(0, 1);
        Checks.due("over all", x.soon(1, 0, 30), 35);
        x.set(0, 9);
        Checks.due("straight", x.soon(1, 0, 30), 5);
        x.set(0, 0);
        Checks.due("none", x.soon(1, 0, 30), -2);
    }

    /** "-2, NONE: likewise." It tells no ROW. */
    private static void promise19Likewise() {
        noWay("soon", (x, w, a, b) -> x.soon(w, a, b));
        noneOfThese("soon", (x, w, a, b) -> x.soon(w, a, b));
        OverTheHill x = Checks.landOf("~9");
        x.storm(2, 2);
        Checks.due("soon of 1", x.soon(1, 0, 1), 1);
        Checks.due("soon of 99, too dear", x.soon(99, 0, 1), -2);
        x.set(0, 991);
        Checks.due("soon of 99", x.soon(99, 0, 1), 1);
        Checks.rowDue("soon", x, 0, 3, 1);
    }

    // ---- 20: pass

    /** "The least HEIGHT h": 0 where SEA is beside HARBOUR, 9 at most. */
    private static void promise20LeastHeight() {
        for (int height = 0; height <= 9; height++) {
            OverTheHill x = Checks.landOf("~" + height + "*");
            Checks.due("over " + height, x.pass(), height);
            Checks.rowDue("over " + height, x, 7);
        }
        OverTheHill x = Checks.landOf("~*");
        Checks.due("none between", x.pass(), 0);
        Checks.rowDue("none between", x, 3);
        x = Checks.landOf("~94*/~3#*/~25*");
        Checks.due("the lowest of three", x.pass(), 5);
        Checks.rowDue("the lowest of three, all but rock and the highest", x, 4095 - 2 - 64);
    }

    /** "FIELDS (bits; LAND, SEA, HARBOUR) of HEIGHT h and less that are on some such way" */
    private static void promise20FieldsOnSomeWay() {
        OverTheHill x = Checks.landOf("~2*#~1/###2##/~1#*2~");
        Checks.due("two", x.pass(), 2);
        Checks.rowDue("waters without a way, and what is beside them, are none", x, 7 | 1 << 9 | 7 << 15);
        x = Checks.landOf("12~2*1/33####");
        Checks.due("dead ends", x.pass(), 2);
        Checks.rowDue("dead ends are on ways that lead there and back, higher ones are not", x, 63);
    }

    /** PLANKS, SHIPS, OXEN and THE RULE are left aside. */
    private static void promise20HeightsAlone() {
        OverTheHill x = Checks.ruled(Checks.landOf("~3*", "99,00"), "999");
        x.set(0, 0);
        x.plank(1);
        Checks.due("pass", x.pass(), 3);
    }

    /** "-2: none." */
    private static void promise20None() {
        for (String land : new String[] {"~", "*", "#", "5", "~#*", "~5~", "*5*", "~#/#*", "##/##"}) {
            OverTheHill x = Checks.landOf(land);
            x.storm(2, 2);
            Checks.due("pass of " + land, x.pass(), -2);
            Checks.rowDue("pass of " + land, x, 0, 3, 1);
        }
    }

    // ---- 21, 22: oxen, can

    /** "The fewest OXEN with which a SHIP can be brought from where it is to HARBOUR": 0 if it is there. */
    private static void promise21FromWhereItIs() {
        OverTheHill x = Checks.landOf("~2*", "10,00");
        Checks.due("from sea", x.oxen(0), 31);
        x.drag(0, 1);
        Checks.due("from land", x.oxen(0), 11);
        x.hours(1);
        x.drag(0, 1);
        Checks.due("in the harbour", x.oxen(0), 0);
        Checks.rowDue("in the harbour", x, 2);
    }

    /** "the best of all HARBOUR FIELDS" */
    private static void promise21BestHarbour() {
        OverTheHill x = Checks.landOf("*3~1*", "2,02");
        Checks.due("the last is the best", x.oxen(0), 5);
        Checks.rowDue("the last is the best", x, 4);
    }

    /** "(of as good ones the first)" */
    private static void promise21First() {
        OverTheHill x = Checks.landOf("*1~1*", "2,02");
        Checks.due("both as good", x.oxen(0), 5);
        Checks.rowDue("both as good", x, 0);
        OverTheHill far = Checks.ruled(Checks.landOf("*00~*", "2,03"), "7");
        Checks.due("the nearer one is no better", far.oxen(0), 7);
        Checks.rowDue("the nearer one is no better", far, 0);
        OverTheHill through = Checks.ruled(Checks.landOf("~*0*", "2,00"), "7");
        Checks.due("through one to another", through.oxen(0), 7);
        Checks.rowDue("through one to another", through, 1);
        OverTheHill last = Checks.landOf("######/######/######/######/######/####~*", "2,34");
        Checks.due("the last field", last.oxen(0), 3);
        Checks.rowDue("the last field", last, 35);
    }

    /** More than there can be OXEN is told, too. */
    private static void promise21MoreThanThereCanBe() {
        OverTheHill x = Checks.ruled(Checks.landOf("~*", "2,00"), "999");
        x.set(0, 0);
        x.hours(30);
        Checks.due("in rain", x.oxen(0), 1498);
        Checks.rowDue("in rain", x, 1);
        Checks.ruled(x, "0");
        Checks.due("by pulls of 0", x.oxen(0), 0);
    }

    /** "-2: by none" */
    private static void promise21ByNone() {
        for (String land : new String[] {"~#*", "~~", "~"}) {
            OverTheHill x = Checks.landOf(land, "1,00");
            x.storm(2, 2);
            Checks.due("oxen on " + land, x.oxen(0), -2);
            Checks.rowDue("oxen on " + land, x, 0, 3, 1);
        }
    }

    /** "NONE: none such." */
    private static void promise21NoneSuch() {
        for (int ship : new int[] {-1, 3, 8, Integer.MIN_VALUE, Integer.MAX_VALUE}) {
            Twin.refused("oxen(" + ship + ")", x -> x.oxen(ship), -1);
        }
    }

    /** "SHIPS (bits; those in the HARBOUR, too)" "the ROW: how many" */
    private static void promise22InTheHarbourToo() {
        OverTheHill x = Checks.landOf("~*", "10,00;20,00");
        x.drag(0, 1);
        x.hours(1);
        x.set(0, 0);
        Checks.due("without oxen", x.can(), 1);
        Checks.rowDue("without oxen", x, 1);
    }

    /** "with OXEN as many as there are": not one fewer, and used ones too. */
    private static void promise22AsManyAsThereAre() {
        OverTheHill x = Checks.landOf("~1*~", "10,00;11,00;10,03");
        x.set(0, 21);
        Checks.due("21", x.can(), 5);
        Checks.rowDue("21", x, 2);
        x.set(0, 20);
        Checks.due("20", x.can(), 4);
        x.set(0, 23);
        Checks.due("23", x.can(), 7);
        x.drag(1, 1);
        Checks.due("all are used", x.can(), 7);
    }

    /** None and all of 8. */
    private static void promise22NoneAndAll() {
        OverTheHill x = Checks.landOf("~*");
        Checks.due("no ships", x.can(), 0);
        Checks.rowDue("no ships", x, 0);
        Checks.tell(x, "1,00;2,00;3,00;4,00;5,00;6,00;7,00;8,00").ships();
        Checks.due("eight", x.can(), 255);
        Checks.rowDue("eight", x, 8);
        x.set(0, 8);
        Checks.due("seven", x.can(), 127);
        x.set(0, 1);
        Checks.due("none", x.can(), 0);
        Checks.rowDue("none", x, 0);
    }

    // ---- 23: planks

    /** "k more PLANKS (0 .. 2; ..)" */
    private static void promise23From0To2() {
        OverTheHill x = Checks.landOf("~22*");
        Checks.due("none", x.planks(9, 0), 28);
        Checks.rowDue("none", x, 0);
        Checks.due("one", x.planks(9, 1), 10);
        Checks.rowDue("one", x, 2);
        Checks.due("two", x.planks(9, 2), 10);
        Checks.rowDue("two", x, 6);
        Twin.refused("three", y -> y.planks(9, 3), -1);
        Twin.refused("fewer than none", y -> y.planks(9, -1), -1);
        Twin.refused("the most", y -> y.planks(9, Integer.MAX_VALUE), -1);
        Twin.refused("the least", y -> y.planks(9, Integer.MIN_VALUE), -1);
    }

    /** "(.. on LAND without any)" */
    private static void promise23WithoutAny() {
        OverTheHill x = Checks.landOf("~25*");
        x.plank(1);
        Checks.due("one more", x.planks(9, 1), 13);
        Checks.rowDue("one more", x, 4);
        x.plank(2);
        Checks.due("none is left", x.planks(9, 1), -2);
        Checks.due("none more", x.planks(9, 0), 13);
        Checks.rowDue("none more", x, 0);
    }

    /** All k are laid, though fewer would do, or none would be better. */
    private static void promise23AllAreLaid() {
        OverTheHill x = Checks.ruled(Checks.landOf("~1*"), "1+g*9");
        Checks.due("none", x.planks(1, 0), 1);
        Checks.due("one, which is worse", x.planks(1, 1), 10);
        Checks.rowDue("one, which is worse", x, 2);
        Checks.due("nothing is laid", x.count(10), 0);
    }

    /** "from any SEA to any HARBOUR" */
    private static void promise23AnySeaAnyHarbour() {
        OverTheHill x = Checks.landOf("~9*/###/~3*/###/~5*");
        Checks.due("none", x.planks(9, 0), 37);
        Checks.due("one", x.planks(9, 1), 13);
        Checks.rowDue("one", x, 1 << 7);
        OverTheHill beside = Checks.landOf("~*9");
        Checks.due("beside each other", beside.planks(9, 1), 10);
        Checks.rowDue("beside each other", beside, 4);
    }

    /** "(bits; of as good ones the least)": the least number of bits, high ones first. */
    private static void promise23Least() {
        OverTheHill x = Checks.ruled(Checks.landOf("~111/1111/111*"), "9");
        Checks.due("all as good, one", x.planks(1, 1), 9);
        Checks.rowDue("all as good, one", x, 2);
        Checks.due("all as good, two", x.planks(1, 2), 9);
        Checks.rowDue("all as good, two", x, 6);
        x.plank(1);
        x.planks(1, 2);
        Checks.rowDue("behind one that is laid", x, 12);
        OverTheHill first = Checks.landOf("1~*");
        first.planks(1, 1);
        Checks.rowDue("field 0", first, 1);
    }

    /** "it": 0, if all PULLS are. */
    private static void promise23PullsOf0() {
        OverTheHill x = Checks.ruled(Checks.landOf("~1*"), "0");
        Checks.due("of 0", x.planks(1, 1), 0);
        Checks.rowDue("of 0", x, 2);
        Checks.ruled(x, "999");
        x.hours(30);
        Checks.due("of 1498", x.planks(1, 1), 1498);
        Checks.rowDue("of 1498", x, 2);
    }

    /** "-2: there is no way, .." */
    private static void promise23NoWay() {
        for (String land : new String[] {"~1#1*", "~11", "*11", "111", "~#*"}) {
            OverTheHill x = Checks.landOf(land);
            x.storm(2, 2);
            Checks.due("none on " + land, x.planks(5, 0), -2);
            Checks.due("one on " + land, x.planks(5, 1), -2);
            Checks.rowDue("on " + land, x, 0, 3, 1);
        }
    }

    /** ".. or there are not so many FIELDS" */
    private static void promise23NotSoManyFields() {
        OverTheHill none = Checks.landOf("~*#");
        Checks.due("none of none", none.planks(5, 0), 6);
        Checks.due("one of none", none.planks(5, 1), -2);
        OverTheHill one = Checks.landOf("~1*");
        Checks.due("one of one", one.planks(5, 1), 6);
        one.storm(2, 2);
        Checks.due("two of one", one.planks(5, 2), -2);
        Checks.rowDue("two of one", one, 0, 3, 1);
        OverTheHill two = Checks.landOf("~11*");
        Checks.due("two of two", two.planks(5, 2), 6);
        Checks.rowDue("two of two", two, 6);
    }

    /** "NONE: others." */
    private static void promise23Others() {
        for (int weight : new int[] {0, 100, -1, Integer.MIN_VALUE, Integer.MAX_VALUE}) {
            Twin.refused("a weight of " + weight, x -> x.planks(weight, 1), -1);
        }
        OverTheHill x = Checks.landOf("~9*");
        Checks.due("a weight of 1", x.planks(1, 0), 11);
        Checks.due("a weight of 99", x.planks(99, 0), 991);
    }

    /** Two of the last FIELDS there can be, behind 24 others that are free. */
    private static void promise23LastFields() {
        OverTheHill x = Checks.ruled(Checks.landOf("000000/000000/000000/000000/######/##~90*"), "(u+v)*(1-g)");
        Checks.due("one", x.planks(1, 1), 9);
        Checks.rowDue("one", x, 1);
        Checks.due("two", x.planks(1, 2), 0);
        Checks.rowDue("two", x, 3L << 33);
    }

    // ---- 24: over

    /** "(0: it is there; 1: if it is by a drag in this HOUR)" */
    private static void promise24ThereAndNext() {
        OverTheHill x = Checks.landOf("~1*", "10,00");
        Checks.due("two drags", x.over(0), 2);
        x.drag(0, 1);
        Checks.due("one drag, though it was dragged", x.over(0), 1);
        x.hours(1);
        x.drag(0, 1);
        Checks.due("there", x.over(0), 0);
        x.set(0, 11);
        Checks.due("there, all oxen used", x.over(0), 0);
    }

    /** "with PULL of OXEN at most" "(.. USED, what was dragged and other SHIPS left aside)" */
    private static void promise24OxenAtMost() {
        OverTheHill x = Checks.landOf("~1*", "10,00;1,00");
        x.set(0, 21);
        Checks.due("21 for 21", x.over(0), 2);
        x.set(0, 20);
        Checks.due("20 for 21", x.over(0), -2);
        x.drag(1, 1);
        x.set(0, 21);
        Checks.due("a ship on land, 3 used", x.over(0), 2);
    }

    /** "(PULL by that HOUR and NIGHT": from one NIGHT to the next, and from rain to a plain one. */
    private static void promise24ByThatHourAndNight() {
        OverTheHill x = Checks.ruled(Checks.landOf("~*", "1,00"), "(h<9)*999");
        x.set(0, 998);
        Checks.due("in hour 9", x.over(0), 10);
        x.hours(9);
        Checks.due("now", x.over(0), 1);
        Checks.ruled(x, "(h>0)*999");
        Checks.due("in hour 0", x.over(0), 2);
        OverTheHill rain = Checks.ruled(Checks.landOf("~*", "1,00"), "100");
        rain.hours(30);
        rain.set(0, 149);
        Checks.due("behind rain", rain.over(0), 11);
        rain.set(0, 150);
        Checks.due("in rain", rain.over(0), 1);
        rain.hours(9);
        rain.set(0, 149);
        Checks.due("behind the last hour of rain", rain.over(0), 2);
        OverTheHill moon = Checks.ruled(Checks.landOf("~0*", "1,00"), "100");
        moon.set(0, 149);
        moon.hours(29);
        Checks.due("rain comes in between", moon.over(0), 12);
        moon.set(0, 150);
        Checks.due("rain is no matter", moon.over(0), 2);
    }

    /** A NIGHT later each HOUR is as it was: two hills can be climbed in one HOUR of each NIGHT alone. */
    private static void promise24ANightLater() {
        for (int hour = 0; hour < 10; hour++) {
            OverTheHill x = Checks.ruled(Checks.landOf("~909*", "1,00"), "(u>0)*(1-(h=" + hour + ")*g)");
            x.set(0, 0);
            x.plank(1);
            x.plank(3);
            Checks.due("by hour " + hour + " of two nights", x.over(0), hour + 10 + 2);
        }
    }

    /** "being dragged once .., or not at all" */
    private static void promise24OnceAnHour() {
        OverTheHill x = Checks.ruled(Checks.landOf("~00*", "1,00"), "(h>0)*(h<8)*999");
        x.set(0, 998);
        Checks.due("in hours 0, 8 and 9", x.over(0), 10);
    }

    /** "-2: not in 60" */
    private static void promise24Sixty() {
        OverTheHill sixty = Checks.ruled(Checks.landOf("~00000/#####*", "1,00"), "(h<9)*999");
        sixty.set(0, 998);
        Checks.due("in the 60th", sixty.over(0), 60);
        OverTheHill more = Checks.ruled(Checks.landOf("~00000/#####*", "1,00"), "(h>0)*999");
        more.set(0, 998);
        Checks.due("in the 51st", more.over(0), 51);
        more.hours(1);
        Checks.due("in the 60th, from an hour later", more.over(0), 60);
        OverTheHill seven = Checks.ruled(Checks.landOf("~00000/*#####", "1,00"), "(h>0)*999");
        seven.set(0, 998);
        Checks.due("beside it", seven.over(0), 1);
        OverTheHill late = Checks.ruled(Checks.landOf("~00000/#####0/#####*", "1,00"), "(h>0)*999");
        late.set(0, 998);
        Checks.due("in the 61st", late.over(0), -2);
        Checks.due("never", Checks.landOf("~#*", "1,00").over(0), -2);
        Checks.due("no harbour", Checks.landOf("~", "1,00").over(0), -2);
    }

    /** "NONE: none such." */
    private static void promise24NoneSuch() {
        for (int ship : new int[] {-1, 3, 8, Integer.MIN_VALUE, Integer.MAX_VALUE}) {
            Twin.refused("over(" + ship + ")", x -> x.over(ship), -1);
        }
        OverTheHill x = Checks.landOf("~*", "1,00");
        x.storm(2, 2);
        x.over(0);
        Checks.rowDue("it tells none", x, 0, 3, 1);
    }

    // ---- 25, 26, 27: nights

    /** "KIND of a NIGHT in n NIGHTS (0 .. 99): it; the ROW: NOISE of a PULL of v then." */
    private static void promise25From0To99() {
        OverTheHill x = new OverTheHill();
        for (int n = 0; n <= 99; n++) {
            Checks.due("kind(" + n + ", 35)", x.kind(n, 35), n % 4);
            Checks.rowDue("kind(" + n + ", 35)", x, n % 4 == 1 ? 1 : n % 4 == 2 ? 6 : 3);
        }
        x.hours(10);
        Checks.due("from the next night on", x.kind(99, 35), 0);
    }

    /** "NONE: others (v 0 .. 9999)." */
    private static void promise25Others() {
        OverTheHill x = new OverTheHill();
        x.kind(2, 9999);
        Checks.rowDue("9999 by moon", x, 1998);
        x.kind(3, 9999);
        Checks.rowDue("9999 in rain", x, 999);
        x.kind(2, 0);
        Checks.rowDue("0 by moon", x, 0);
        int[][] none = {{-1, 5}, {100, 5}, {0, -1}, {0, 10000}, {Integer.MIN_VALUE, 5}, {Integer.MAX_VALUE, 5},
            {0, Integer.MIN_VALUE}, {0, Integer.MAX_VALUE}, {100, 10000}};
        for (int[] a : none) {
            Twin.refused("kind(" + a[0] + ", " + a[1] + ")", y -> y.kind(a[0], a[1]), -1);
        }
    }

    /** "The most PULL that one HOUR .. can have in one drag without an ALARM": as kind() tells its NOISE. */
    private static void promise26WithoutAnAlarm() {
        for (int ear : new int[] {0, 1, 2, 3, 50, 99, 499, 500}) {
            OverTheHill x = new OverTheHill();
            x.set(1, ear);
            for (int n = 0; n < 4; n++) {
                int most = x.quiet(n);
                x.kind(n, most);
                Checks.due("ear " + ear + ", kind " + n + ": quiet", x.row(0) <= ear, true);
                if (most < 9999) {
                    x.kind(n, most + 1);
                    Checks.due("ear " + ear + ", kind " + n + ": one more", x.row(0) > ear, true);
                }
            }
        }
    }

    /** "(0 .. 9999)" */
    private static void promise26AtMost9999() {
        OverTheHill x = new OverTheHill();
        x.set(1, 999);
        int[] due = {9999, 9999, 4999, 9999};
        for (int n = 0; n < 4; n++) {
            Checks.due("ear 999, kind " + n, x.quiet(n), due[n]);
        }
        x.set(1, 998);
        Checks.due("ear 998", x.quiet(0), 9989);
        x.set(1, 499);
        Checks.due("ear 499, drums", x.quiet(1), 9999);
        x.set(1, 498);
        Checks.due("ear 498, drums", x.quiet(1), 9979);
        x.set(1, 0);
        int[] least = {9, 19, 9, 9};
        for (int n = 0; n < 4; n++) {
            Checks.due("ear 0, kind " + n, x.quiet(n), least[n]);
        }
    }

    /** "in n NIGHTS (0 .. 99)" "NONE: another n." */
    private static void promise26From0To99() {
        OverTheHill x = new OverTheHill();
        Checks.due("in 0 nights", x.quiet(0), 509);
        Checks.due("in 97 nights, drums", x.quiet(97), 1019);
        Checks.due("in 98 nights, moon", x.quiet(98), 259);
        Checks.due("in 99 nights", x.quiet(99), 509);
        for (int n : new int[] {-1, 100, Integer.MIN_VALUE, Integer.MAX_VALUE}) {
            Twin.refused("quiet(" + n + ")", y -> y.quiet(n), -1);
        }
        x.storm(2, 2);
        x.quiet(5);
        Checks.rowDue("it tells none", x, 0, 3, 1);
    }

    /** "The NIGHT of the next four (0: this one .. 3)" */
    private static void promise27NextFour() {
        int[] best = {1, 0, 3, 2};
        OverTheHill x = Checks.ruled(Checks.landOf("~*"), "40");
        for (int night = 0; night < 8; night++) {
            Checks.due("from night " + night, x.night(1, 0, 1), best[night % 4]);
            Checks.rowDue("from night " + night, x, 2);
            x.hours(10);
        }
    }

    /** "in whose HOUR 0": whatever HOUR it is now. */
    private static void promise27HourNought() {
        OverTheHill x = Checks.ruled(Checks.landOf("~*"), "(h=0)*40+(h=9)*999");
        x.hours(9);
        Checks.due("from hour 9", x.night(1, 0, 1), 1);
        Checks.rowDue("from hour 9", x, 2);
    }

    /** "the way that easy() would tell then": in rain another one than now. */
    private static void promise27EasyThen() {
        // Over the hill 20 and 0, around it 5 four times; in rain 30 and 0, and 7 four times.
        OverTheHill x = Checks.ruled(Checks.landOf("~4*/000"), "(u+v=0)*5+u*5");
        Checks.due("as much, with fewer fields", x.easy(1, 0, 2), 20);
        Checks.rowDue("as much, with fewer fields", x, 0, 1, 2);
        Checks.due("in rain it is quiet", x.night(1, 0, 2), 3);
        Checks.rowDue("in rain it is quiet", x, 0);
        x.hours(30);
        Checks.due("less in rain", x.easy(1, 0, 2), 28);
        Checks.rowDue("less in rain", x, 0, 3, 4, 5, 2);
        Checks.due("from rain", x.night(1, 0, 2), 0);
        Checks.rowDue("from rain", x, 0);
    }

    /** "(of each PULL by itself, added)" */
    private static void promise27EachByItself() {
        OverTheHill x = Checks.ruled(Checks.landOf("~000*"), "19");
        x.hours(10);
        Checks.due("drums: nothing four times", x.night(1, 0, 4), 0);
        Checks.rowDue("drums: nothing four times", x, 0);
        Checks.ruled(x, "39");
        Checks.due("drums: 1 four times", x.night(1, 0, 4), 0);
        Checks.rowDue("drums: 1 four times", x, 4);
        OverTheHill all = Checks.ruled(Checks.landOf(SNAIL), "(u+v>1)*900+20");
        Checks.due("over all fields", all.night(1, 0, 30), 1);
        Checks.rowDue("over all fields", all, 35);
    }

    /** "of equal ones the first" */
    private static void promise27First() {
        OverTheHill x = Checks.ruled(Checks.landOf("~*"), "6");
        for (int night = 0; night < 4; night++) {
            Checks.due("all are quiet, from night " + night, x.night(1, 0, 1), 0);
            Checks.rowDue("all are quiet, from night " + night, x, 0);
            x.hours(10);
        }
        Checks.ruled(x, "999");
        Checks.due("to the same", x.night(1, 1, 1), 0);
        Checks.rowDue("to the same", x, 0);
    }

    /** The greatest PULL there can be is heard, too: 99, with drums 49, by moon 198, in rain 149. */
    private static void promise27GreatestPull() {
        OverTheHill x = Checks.ruled(Checks.landOf("~*"), "999");
        Checks.due("999", x.night(1, 0, 1), 1);
        Checks.rowDue("999", x, 49);
        x.hours(20);
        Checks.due("from moon on", x.night(1, 0, 1), 3);
        Checks.rowDue("from moon on", x, 49);
    }

    /** "-2, NONE: as way()." */
    private static void promise27AsWay() {
        noWay("night", (x, w, a, b) -> x.night(w, a, b));
        noneOfThese("night", (x, w, a, b) -> x.night(w, a, b));
        edgesOfWeights("night", (x, w, a, b) -> x.night(w, a, b), 1, 1);
    }
}
