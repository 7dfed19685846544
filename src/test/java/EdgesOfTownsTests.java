/** Promises 28 to 39: each sentence that names an edge has a test here, with its words ahead of it. */
public final class EdgesOfTownsTests {
    private static final int[] FAR_OFF = {Integer.MIN_VALUE, Integer.MAX_VALUE};

    public static void main(String[] args) throws Exception {
        Checks.runEach(EdgesOfTownsTests.class);
    }

    // ---- 28, 29: walls

    private static void walls(String yards, int men, int share, long... row) {
        OverTheHill x = Checks.tell(new OverTheHill(), yards);
        Checks.due(men + " on " + yards, x.walls(men), share);
        Checks.rowDue(men + " on " + yards, x, row);
        Checks.due(men + " on " + yards + ": signs", x.count(15), 0);
    }

    private static void badWalls(String yards, int men, int answer) {
        Twin.refusedText("walls(" + men + ")", yards, x -> x.walls(men), answer);
    }

    /** "m men (0 .. 99, all of them)" */
    private static void promise28From0To99Men() {
        walls("1", 0, 0, 0);
        walls("5", 0, 0, 0);
        walls("999", 0, 0, 0, 0, 0);
        walls("1", 99, 9900, 99);
        walls("9", 99, 1100, 99);
        walls("1", 1, 100, 1);
        walls("9", 1, 11, 1);
        walls("9999", 99, 266, 24, 24, 24, 27);
        walls("9", 100 - 1, 1100, 99);
    }

    /** "1 to 4 stretches of a wall" */
    private static void promise28From1To4Stretches() {
        walls("1", 7, 700, 7);
        walls("11", 7, 300, 3, 4);
        walls("111", 7, 200, 2, 2, 3);
        walls("1111", 7, 100, 1, 1, 1, 4);
    }

    /** "(digits 1 .. 9, YARDS of each)" */
    private static void promise28From1To9Yards() {
        for (int yards = 1; yards <= 9; yards++) {
            walls("" + yards, 18, 1800 / yards, 18);
        }
        badWalls("0", 5, -1);
        badWalls("10", 5, -2);
        badWalls("/", 5, -1);
        badWalls(":", 5, -1);
    }

    /** "100 times its men by its YARDS (cut)" */
    private static void promise28Cut() {
        walls("3", 2, 66, 2);
        walls("7", 6, 85, 6);
        walls("33", 5, 66, 2, 3);
        walls("91", 9, 88, 8, 1);
    }

    /** "the least of all stretches' .. is the most" */
    private static void promise28LeastIsMost() {
        walls("19", 10, 100, 1, 9);
        walls("91", 10, 100, 9, 1);
        walls("12", 6, 200, 2, 4);
        // With none for one of them the least is 0, however few the others have.
        walls("1111", 3, 0, 0, 0, 0, 3);
        walls("1111", 4, 100, 1, 1, 1, 1);
    }

    /** "of as good ones the least row" */
    private static void promise28LeastRow() {
        walls("12", 5, 150, 2, 3);
        walls("11", 3, 100, 1, 2);
        walls("99", 1, 0, 0, 1);
        walls("1119", 10, 77, 1, 1, 1, 7);
        walls("9111", 10, 77, 7, 1, 1, 1);
        walls("1911", 11, 88, 1, 8, 1, 1);
    }

    /** One call behind another: nothing of the earlier wall stays. */
    private static void promise28OneBehindAnother() {
        OverTheHill x = Checks.tell(new OverTheHill(), "1234");
        Checks.due("four", x.walls(10), 100);
        Checks.rowDue("four", x, 1, 2, 3, 4);
        Checks.due("two", Checks.tell(x, "12").walls(6), 200);
        Checks.rowDue("two", x, 2, 4);
        Checks.due("none", Checks.tell(x, "").walls(6), -1);
        Checks.due("one", Checks.tell(x, "9").walls(9), 100);
        Checks.rowDue("one", x, 9);
        Checks.due("three", Checks.tell(x, "111").walls(3), 100);
        Checks.rowDue("three", x, 1, 1, 1);
    }

    /** "-100: another m (asked first)": whatever THE TEXT is, and it is emptied. */
    private static void promise28AnotherM() {
        for (int men : new int[] {-1, 100, FAR_OFF[0], FAR_OFF[1]}) {
            for (String yards : new String[] {"", "12", "x", "12345"}) {
                badWalls(yards, men, -100);
            }
        }
    }

    /** "-1 - p: the sign at p can't stand there (its end, if it ends too early; ..)" */
    private static void promise28SignsThatCantStand() {
        badWalls("", 5, -1);
        badWalls("x", 5, -1);
        badWalls("1x", 5, -2);
        badWalls("12 ", 5, -3);
        badWalls("123-", 5, -4);
        badWalls("12" + (char) 0, 5, -3);
        badWalls("" + (char) 255, 5, -1);
    }

    /** "a fifth sign: at it" */
    private static void promise28FifthSign() {
        badWalls("12345", 5, -5);
        badWalls("1234x", 5, -5);
        badWalls("12340", 5, -5);
        badWalls("1".repeat(80), 5, -5);
        badWalls("123x5", 5, -4);
    }

    /** "6 men each on three places": "The defender has a, b and the rest". */
    private static void promise29SixMen() {
        OverTheHill x = new OverTheHill();
        int[][] all = {{6, 0}, {0, 6}, {0, 0}};
        for (int[] a : all) {
            Checks.due("all at one place", x.storm(a[0], a[1]), 15);
        }
        x.storm(6, 0);
        Checks.rowDue("all at the first", x, 0, 1, 1);
        x.storm(0, 6);
        Checks.rowDue("all at the second", x, 1, 0, 1);
        x.storm(0, 0);
        Checks.rowDue("all at the third", x, 1, 1, 1);
    }

    /** "with like ones nobody does" */
    private static void promise29LikeOnes() {
        OverTheHill x = new OverTheHill();
        // Two threes take two places and lose one; 4, 2, 0 takes one, loses one, and one is alike.
        Checks.due("2, 2, 2", x.storm(2, 2), 3);
        Checks.rowDue("2, 2, 2", x, 0, 3, 1);
        // The second place is taken by 1 and more, the third by 2 and more: ten ways, the first is lost then.
        Checks.due("5, 0, 1", x.storm(5, 0), 10);
        Checks.rowDue("5, 0, 1", x, 0, 1, 1);
    }

    /** "NONE: a or b below 0, together above 6." */
    private static void promise29Others() {
        int[][] none = {{-1, 0}, {0, -1}, {-1, 7}, {7, -1}, {7, 0}, {0, 7}, {3, 4}, {4, 3}, {6, 1},
            {FAR_OFF[0], FAR_OFF[0]}, {FAR_OFF[1], FAR_OFF[1]}, {FAR_OFF[1], FAR_OFF[0]}, {6, FAR_OFF[1]}};
        for (int[] a : none) {
            Twin.refused("storm(" + a[0] + ", " + a[1] + ")", x -> x.storm(a[0], a[1]), -1);
        }
        OverTheHill x = new OverTheHill();
        Checks.due("together 6", x.storm(3, 3) > 0, true);
    }

    // ---- 30: town

    private static void town(int v, int k, int besieger, long other, long first) {
        OverTheHill x = new OverTheHill();
        Checks.due("town(" + v + ", " + k + ")", x.town(v, k), besieger);
        Checks.rowDue("town(" + v + ", " + k + ")", x, other, first);
    }

    /** "worth v (1 .. 60)" */
    private static void promise30From1To60() {
        town(1, 1, 0, 0, 0);
        town(2, 1, 1, 0, 1);
        town(60, 1, 59, 0, 1);
        for (int v : new int[] {0, 61, -1, FAR_OFF[0], FAR_OFF[1]}) {
            Twin.refused("town(" + v + ", 1)", x -> x.town(v, 1), -1);
        }
    }

    /** "k turns (1 .. 20) at most" */
    private static void promise30From1To20Turns() {
        town(60, 2, 0, 0, 0);
        town(60, 3, 59, 0, 1);
        town(60, 19, 59, 0, 1);
        town(60, 20, 0, 0, 0);
        for (int k : new int[] {0, 21, -1, FAR_OFF[0], FAR_OFF[1]}) {
            Twin.refused("town(5, " + k + ")", x -> x.town(5, k), -1);
        }
    }

    /** "never more than v": of 1 there is nothing to be had, of 2 and 3 the second one can't offer enough. */
    private static void promise30NeverMoreThanV() {
        town(1, 20, 0, 0, 0);
        town(2, 20, 1, 0, 1);
        // 2 leaves 1, and the other one could but offer 3 and have nothing.
        town(3, 2, 1, 0, 2);
        town(4, 2, 1, 0, 3);
        town(5, 2, 0, 0, 0);
    }

    /** "(if nothing was offered, it has 0)": the besieger gives up at once, and the other one has nothing. */
    private static void promise30NothingWasOffered() {
        town(5, 2, 0, 0, 0);
        town(5, 4, 0, 0, 0);
    }

    /** "of like ones gives up, else offers the least" */
    private static void promise30OfLikeOnes() {
        town(1, 1, 0, 0, 0);
        town(5, 1, 4, 0, 1);
        town(60, 3, 59, 0, 1);
    }

    /** One call behind another: nothing of the earlier town stays. */
    private static void promise30OneBehindAnother() {
        OverTheHill x = new OverTheHill();
        int[][] towns = {{60, 1, 59, 1}, {60, 20, 0, 0}, {2, 1, 1, 1}, {1, 1, 0, 0}, {4, 2, 1, 3}, {5, 1, 4, 1}, {5, 2, 0, 0}};
        for (int[] t : towns) {
            Checks.due("town(" + t[0] + ", " + t[1] + ")", x.town(t[0], t[1]), t[2]);
            Checks.rowDue("town(" + t[0] + ", " + t[1] + ")", x, 0, t[3]);
        }
    }

    /** "NONE: others." Both at once, too. */
    private static void promise30Others() {
        Twin.refused("town(0, 0)", x -> x.town(0, 0), -1);
        Twin.refused("town(61, 21)", x -> x.town(61, 21), -1);
    }

    // ---- 31, 32: raids

    private static void secret(int n, int p, long upper, long lower) {
        OverTheHill x = new OverTheHill();
        Checks.due("secret(" + n + ", " + p + ")", x.secret(n, p), 0);
        Checks.rowDue("secret(" + n + ", " + p + ")", x, upper, lower);
    }

    /** "Each of n people (0 .. 12)" */
    private static void promise31From0To12People() {
        for (int p = 0; p <= 10; p++) {
            secret(0, p, 1, 1);
        }
        secret(1, 3, 7, 10);
        secret(12, 3, 13841287201L, 1000000000000L);
        for (int n : new int[] {-1, 13, FAR_OFF[0], FAR_OFF[1]}) {
            Twin.refused("secret(" + n + ", 5)", x -> x.secret(n, 5), -1);
        }
    }

    /** "by p tenths (0 .. 10)" */
    private static void promise31From0To10Tenths() {
        secret(12, 0, 1, 1);
        secret(1, 1, 9, 10);
        secret(1, 9, 1, 10);
        secret(12, 9, 1, 1000000000000L);
        secret(1, 10, 0, 1);
        for (int p : new int[] {-1, 11, FAR_OFF[0], FAR_OFF[1]}) {
            Twin.refused("secret(5, " + p + ")", x -> x.secret(5, p), -1);
        }
    }

    /** "how likely nobody does: 0; the ROW: the fraction." In lowest terms, 0 by 1. */
    private static void promise31Fraction() {
        secret(1, 5, 1, 2);
        secret(12, 5, 1, 4096);
        secret(2, 6, 4, 25);
        secret(12, 6, 4096, 244140625);
        secret(12, 8, 1, 244140625);
        secret(12, 10, 0, 1);
        secret(12, 1, 282429536481L, 1000000000000L);
    }

    /** "The most people (0 .. 12)" */
    private static void promise32From0To12People() {
        OverTheHill x = new OverTheHill();
        Checks.due("nobody betrays it", x.told(0, 100), 12);
        Checks.due("no odds are wanted", x.told(10, 0), 12);
        Checks.due("all betray it", x.told(10, 1), 0);
        Checks.due("it has to be sure", x.told(1, 100), 0);
        Checks.due("just twelve", x.told(1, 28), 12);
        Checks.due("just not twelve", x.told(1, 29), 11);
    }

    /** "by v (0 .. 100) in 100 or more": as much is enough. */
    private static void promise32OrMore() {
        OverTheHill x = new OverTheHill();
        Checks.due("half of it", x.told(5, 50), 1);
        Checks.due("more than half of it", x.told(5, 51), 0);
        Checks.due("a quarter", x.told(5, 25), 2);
        Checks.due("more than a quarter", x.told(5, 26), 1);
        Checks.due("a tenth", x.told(9, 10), 1);
        Checks.due("more than a tenth", x.told(9, 11), 0);
        Checks.due("a hundredth", x.told(9, 1), 2);
        Checks.due("81 in 100", x.told(1, 81), 2);
        Checks.due("82 in 100", x.told(1, 82), 1);
        Checks.due("72.9 in 100 is 72 or more", x.told(1, 72), 3);
        Checks.due("72.9 in 100 is not 73", x.told(1, 73), 2);
    }

    /** "-2: not even 0 (never so)" */
    private static void promise32NeverSo() {
        OverTheHill x = new OverTheHill();
        for (int p = 0; p <= 10; p++) {
            for (int v = 0; v <= 100; v += v < 2 || v > 97 ? 1 : 12) {
                int many = x.told(p, v);
                Checks.due("told(" + p + ", " + v + ") is 0 .. 12", many >= 0 && many <= 12, true);
            }
        }
    }

    /** "NONE: others." */
    private static void promise32Others() {
        for (int p : new int[] {-1, 11, FAR_OFF[0], FAR_OFF[1]}) {
            Twin.refused("told(" + p + ", 50)", x -> x.told(p, 50), -1);
        }
        for (int v : new int[] {-1, 101, FAR_OFF[0], FAR_OFF[1]}) {
            Twin.refused("told(5, " + v + ")", x -> x.told(5, v), -1);
        }
    }

    // ---- 33 to 36: traces

    /** "WEIGHT of the SHIP was v (1 .. 99) or more (is 1), or less (0): how many traces." */
    private static void promise33OrMoreOrLess() {
        OverTheHill x = Checks.landOf("~", "19,00;20,00;21,00");
        Checks.due("20 or more", x.trace(20, 1), 1);
        Checks.due("20 and 21", x.fits(), 6);
        x.forget();
        Checks.due("less than 20", x.trace(20, 0), 1);
        Checks.due("19", x.fits(), 1);
    }

    /** v may be 1 and 99, either way. */
    private static void promise33From1To99() {
        OverTheHill x = Checks.landOf("~", "1,00;98,00;99,00");
        x.trace(1, 1);
        Checks.due("1 or more", x.fits(), 7);
        x.trace(99, 0);
        Checks.due("less than 99", x.fits(), 3);
        x.forget();
        x.trace(99, 1);
        Checks.due("99 or more", x.fits(), 4);
        x.forget();
        x.trace(1, 0);
        Checks.due("less than 1", x.fits(), 0);
        Checks.rowDue("less than 1", x, 0);
    }

    /** "Refused: others, .." */
    private static void promise33Others() {
        for (int v : new int[] {0, 100, -1, FAR_OFF[0], FAR_OFF[1]}) {
            for (int is = 0; is <= 1; is++) {
                int asked = is;
                Twin.refused("trace(" + v + ", " + is + ")", x -> x.trace(v, asked), -1);
            }
        }
        for (int is : new int[] {-1, 2, FAR_OFF[0], FAR_OFF[1]}) {
            Twin.refused("trace(5, " + is + ")", x -> x.trace(5, is), -1);
        }
    }

    /** "Refused: .. 12." */
    private static void promise33Twelve() {
        OverTheHill x = Checks.landOf("~", "10,00;20,00");
        for (int i = 1; i <= 12; i++) {
            Checks.due("trace " + i, x.trace(5, 1), i);
        }
        Checks.due("a thirteenth", x.trace(15, 1), -1);
        Checks.due("twelve", x.count(12), 12);
        Checks.due("it is not taken", x.fits(), 3);
        x.forget();
        Checks.due("room again", x.trace(15, 1), 1);
        Checks.due("it is taken", x.fits(), 2);
    }

    /** "They are forgotten: how many there were." */
    private static void promise34HowManyThereWere() {
        OverTheHill x = Checks.landOf("~", "10,00;20,00");
        Checks.due("none", x.forget(), 0);
        for (int i = 0; i < 12; i++) {
            x.trace(99, i % 2);
        }
        Checks.due("none fit", x.fits(), 0);
        Checks.due("twelve", x.forget(), 12);
        Checks.due("none are left", x.count(12), 0);
        Checks.due("all fit", x.fits(), 3);
        Checks.due("none again", x.forget(), 0);
    }

    /** "SHIPS (bits) that fit all traces; the ROW: how many." None, and all of 8. */
    private static void promise35NoneAndAll() {
        OverTheHill x = new OverTheHill();
        Checks.due("no ships", x.fits(), 0);
        Checks.rowDue("no ships", x, 0);
        Checks.tell(x, "1,00;2,00;3,00;4,00;5,00;6,00;7,00;99,00").ships();
        Checks.due("no traces", x.fits(), 255);
        Checks.rowDue("no traces", x, 8);
        x.trace(2, 1);
        x.trace(7, 0);
        x.trace(1, 1);
        x.trace(99, 0);
        Checks.due("all of four traces", x.fits(), 62);
        Checks.rowDue("all of four traces", x, 5);
        x.trace(4, 0);
        x.trace(4, 1);
        Checks.due("traces against each other", x.fits(), 0);
        Checks.rowDue("traces against each other", x, 0);
    }

    /** "The v (1 .. 99) to ask about": 1, if all are alike, up to 99. */
    private static void promise36From1To99() {
        OverTheHill x = Checks.landOf("~", "7,00");
        Checks.due("one ship", x.ask(), 1);
        Checks.rowDue("one ship", x, 1);
        x = Checks.landOf("~", "99,00;99,00");
        Checks.due("two alike", x.ask(), 1);
        Checks.rowDue("two alike", x, 2);
        x = Checks.landOf("~", "99,00;98,00");
        Checks.due("99 and 98", x.ask(), 99);
        Checks.rowDue("99 and 98", x, 1);
        x = Checks.landOf("~", "1,00;2,00");
        Checks.due("1 and 2", x.ask(), 2);
        Checks.rowDue("1 and 2", x, 1);
    }

    /** "of equal ones the least" */
    private static void promise36Least() {
        OverTheHill x = Checks.landOf("~", "10,00;90,00;90,00;10,00");
        Checks.due("11 to 90 are alike", x.ask(), 11);
        Checks.rowDue("11 to 90 are alike", x, 2);
        x = Checks.landOf("~", "10,00;50,00;90,00");
        Checks.due("both sides of 50 are alike", x.ask(), 11);
        Checks.rowDue("both sides of 50 are alike", x, 2);
    }

    /** "the fewest such SHIPS are left": such as fit all traces. */
    private static void promise36SuchShips() {
        OverTheHill x = Checks.landOf("~", "10,00;50,00;90,00;91,00");
        Checks.due("of all", x.ask(), 51);
        x.trace(60, 1);
        Checks.due("of two", x.ask(), 91);
        Checks.rowDue("of two", x, 1);
        x.trace(91, 0);
        Checks.due("of one", x.ask(), 1);
        Checks.rowDue("of one", x, 1);
    }

    /** Of 8 the last one counts as the others do. */
    private static void promise36AllEight() {
        OverTheHill x = Checks.landOf("~", "10,00;10,00;10,00;10,00;20,00;20,00;20,00;20,00");
        Checks.due("four and four", x.ask(), 11);
        Checks.rowDue("four and four", x, 4);
        x = Checks.landOf("~", "10,00;10,00;10,00;20,00;20,00;20,00;20,00;30,00");
        Checks.due("three, four and one", x.ask(), 11);
        Checks.rowDue("three, four and one", x, 5);
        x = Checks.landOf("~", "10,00;10,00;10,00;20,00;20,00;20,00;20,00;10,00");
        Checks.due("the last a light one", x.ask(), 11);
        Checks.rowDue("the last a light one", x, 4);
    }

    /** "-2: none fit." */
    private static void promise36NoneFit() {
        OverTheHill x = new OverTheHill();
        x.storm(2, 2);
        Checks.due("no ships", x.ask(), -2);
        Checks.tell(x, "5,00").ships();
        x.trace(6, 1);
        Checks.due("none that fit", x.ask(), -2);
        Checks.rowDue("none that fit", x, 0, 3, 1);
        x.forget();
        Checks.due("one that fits", x.ask(), 1);
    }

    // ---- 37: law

    /** "THE TEXT is another RULE (an empty one: none)" */
    private static void promise37EmptyText() {
        OverTheHill x = Checks.ruled(Checks.landOf("~*", "10,00"), "(h<5)*999");
        Checks.due("none", x.law(0), 1 - 6);
        Checks.rowDue("none", x, 1, 6);
        Checks.due("THE RULE stays", x.pull(0, 1), 999);
    }

    /** "(each 61, if not in 60)" */
    private static void promise37Sixty() {
        String sixtieth = "(h<9)*999";
        OverTheHill x = Checks.landOf("~00000/#####*", "1,00");
        Checks.due("60 by it", Checks.tell(x, sixtieth).law(0), 60 - 6);
        Checks.rowDue("60 by it", x, 60, 6);
        Checks.due("61 by it", Checks.tell(x, "999").law(0), 61 - 6);
        Checks.rowDue("61 by it", x, 61, 6);
        Checks.ruled(x, "999");
        Checks.due("61 by THE RULE", Checks.tell(x, "").law(0), 6 - 61);
        Checks.rowDue("61 by THE RULE", x, 6, 61);
        Checks.due("61 by both", Checks.tell(x, "998").law(0), 0);
        Checks.rowDue("61 by both", x, 61, 61);
        Checks.due("60 and 61", Checks.tell(x, sixtieth).law(0), -1);
        Checks.rowDue("60 and 61", x, 60, 61);
    }

    /** 0 and 0 for a SHIP in the HARBOUR. */
    private static void promise37ItIsThere() {
        OverTheHill x = Checks.landOf("~*", "1,00");
        x.drag(0, 1);
        Checks.due("there", Checks.tell(x, "999").law(0), 0);
        Checks.rowDue("there", x, 0, 0);
    }

    private static void badLaw(String text, int place) {
        Twin.refusedText("law", text, x -> x.law(2), -10000 - place);
    }

    /** "-10000 - p: the sign at p can't stand there (as rule())" */
    private static void promise37AsRule() {
        badLaw("x", 0);
        badLaw("-", 1);
        badLaw("w+", 2);
        badLaw("1234", 3);
        badLaw("1<2<3", 3);
        badLaw("(((((1)))))", 4);
        badLaw("(1", 2);
        badLaw("1+".repeat(19) + "111", 40);
        badLaw("1+".repeat(40), 40);
        badLaw("1+".repeat(19) + "1x1", 39);
        OverTheHill x = Checks.landOf("~*", "29,00");
        x.set(0, 30);
        Checks.due("a law of forty signs", Checks.tell(x, "1+".repeat(19) + "11").law(0), 0);
        Checks.rowDue("a law of forty signs", x, 1, 1);
    }

    /** "-20000: no such SHIP (asked first; THE TEXT is emptied)" */
    private static void promise37NoSuchShip() {
        for (int ship : new int[] {-1, 3, 8, FAR_OFF[0], FAR_OFF[1]}) {
            for (String text : new String[] {"w", "", "x", "1+".repeat(40)}) {
                Twin.refusedText("law(" + ship + ")", text, x -> x.law(ship), -20000);
            }
        }
    }

    // ---- 38: rests

    /** "(0 .. 9 men each)": men that cost nothing are sent, 9 against any. */
    private static void promise38From0To9Men() {
        OverTheHill x = new OverTheHill();
        Checks.due("for nothing", x.rests(1, 0), 10);
        Checks.rowDue("for nothing", x, 9, 0);
        Checks.due("for nothing, much", x.rests(99, 0), 10);
        Checks.rowDue("for nothing, much", x, 9, 0);
    }

    /** "if y is above x": as many are not enough. */
    private static void promise38AboveX() {
        OverTheHill x = new OverTheHill();
        // One of 5 for 5 gains nothing, on either side: none and none, none and one.
        Checks.due("a man for all there is", x.rests(5, 5), 2);
        Checks.rowDue("a man for all there is", x, 0, 0);
        Checks.due("a man for more", x.rests(5, 6), 1);
        Checks.rowDue("a man for more", x, 0, 0);
    }

    /** "the least (x, y; nothing without)" */
    private static void promise38NothingWithout() {
        OverTheHill x = new OverTheHill();
        x.storm(2, 2);
        Checks.due("none", x.rests(21, 20), 0);
        Checks.rowDue("none", x);
        x.storm(2, 2);
        Checks.due("none of the greatest", x.rests(99, 20), 0);
        Checks.rowDue("none of the greatest", x);
    }

    /** "v (1 .. 99)", "c (0 .. 20)", "NONE: others." */
    private static void promise38Others() {
        OverTheHill x = new OverTheHill();
        Checks.due("v 1, c 20", x.rests(1, 20), 1);
        Checks.due("v 20, c 20", x.rests(20, 20), 2);
        Checks.due("v 99, c 0", x.rests(99, 0), 10);
        for (int v : new int[] {0, 100, -1, FAR_OFF[0], FAR_OFF[1]}) {
            Twin.refused("rests(" + v + ", 5)", y -> y.rests(v, 5), -1);
        }
        for (int c : new int[] {-1, 21, FAR_OFF[0], FAR_OFF[1]}) {
            Twin.refused("rests(5, " + c + ")", y -> y.rests(5, c), -1);
        }
    }

    // ---- 39: sieges

    /** "n times (1 .. 99)", "NONE: another n." */
    private static void promise39From1To99() {
        for (int n : new int[] {0, 100, -1, FAR_OFF[0], FAR_OFF[1]}) {
            Twin.refused("sieges(1, " + n + ")", x -> x.sieges(1, n), -1);
        }
        OverTheHill x = Checks.ruled(Checks.landOf("~*", "1,00"), "0");
        // Of seed 2 the first draws are 33676 and 22817: heading 1; then 45682: heading 2.
        Checks.due("once", x.sieges(2, 1), 1);
        Checks.rowDue("once", x, 1, 0);
        Checks.due("ninety-nine times", x.sieges(2, 99) > 1, true);
    }

    /** "-2: there are no SHIPS (asked first)" */
    private static void promise39NoShips() {
        OverTheHill x = new OverTheHill();
        x.storm(2, 2);
        for (int n : new int[] {1, 99, 0, 100, -1}) {
            Checks.due("sieges(1, " + n + ")", x.sieges(1, n), -2);
        }
        Checks.rowDue("no ships", x, 0, 3, 1);
    }

    /** "by which it is dragged, if it can be (as drag(); else nothing)" */
    private static void promise39IfItCanBe() {
        OverTheHill x = Checks.landOf("~*", "10,00");
        x.set(0, 11);
        Checks.due("11 oxen for 11", x.sieges(2, 1), 1);
        Checks.rowDue("11 oxen for 11", x, 1, 0);
        x.set(0, 10);
        Checks.due("10 oxen for 11", x.sieges(2, 1), 0);
        Checks.rowDue("10 oxen for 11", x, 0, 0);
        x.set(0, 100);
        // The second heading of seed 2 is down: outside. The third is left, but it was dragged in this hour.
        Checks.due("twice, once outside", x.sieges(2, 2), 1);
        Checks.due("three times, the last dragged already", x.sieges(2, 3), 1);
        Checks.rowDue("three times", x, 1, 0);
        x.drag(0, 1);
        x.hours(1);
        Checks.due("in the harbour, right is outside, left not", x.sieges(2, 3), 1);
        Checks.rowDue("in the harbour, right is outside, left not", x, 0, 0);
    }

    /** "behind each third time AN HOUR goes by" */
    private static void promise39EachThirdTime() {
        OverTheHill x = Checks.ruled(Checks.landOf("~*", "1,00"), "10");
        x.set(1, 0);
        Checks.due("twice", x.sieges(2, 2), 1);
        Checks.rowDue("twice: no hour", x, 1, 0);
        Checks.due("three times", x.sieges(2, 3), 1);
        Checks.rowDue("three times: an hour, and its alarm", x, 1, 1);
        x.set(1, 1);
        Checks.due("as loud as the ear", x.sieges(2, 3), 1);
        Checks.rowDue("as loud as the ear", x, 1, 0);
    }

    /** "A DRAW of n": "(R without sign, by 65536) % n". */
    private static void promise39DrawsWithoutSign() {
        // R of seed 2 is below 0 as an int at first: 33676 % 3 is ship 1, then 22817 % 4 heading 1.
        OverTheHill x = Checks.landOf("~*/~#", "1,02;1,00;1,02");
        Checks.due("ship 1 of three", x.sieges(2, 1), 1);
        Checks.rowDue("ship 1 of three", x, 1, 0);
        OverTheHill other = Checks.landOf("~*/~#", "1,00;1,02;1,00");
        Checks.due("not the others", other.sieges(2, 1), 0);
        // 43007 % 8 is ship 7 at the second time of seed 2, 45682 % 4 heading 2.
        OverTheHill eight = Checks.landOf("~/*/~", "1,02;1,02;1,02;1,02;1,02;1,02;1,02;1,00");
        Checks.due("ship 7 of eight", eight.sieges(2, 2), 1);
        Checks.rowDue("ship 7 of eight", eight, 1, 0);
    }

    /** "(as ints; R is seed at first)": the least and the greatest seeds go round. */
    private static void promise39SeedsGoRound() {
        int[] seeds = {0, 1, 3, -1, FAR_OFF[1], FAR_OFF[0]};
        // What is left of the second draws by 4: of 54236, 38526, 7107, 4409, 37177 and 21468.
        int[] headings = {0, 2, 3, 1, 1, 0};
        String[] lands = {"*/~", "~*", "~/*", "*~"};
        String[] ships = {"1,01", "1,00", "1,00", "1,01"};
        for (int i = 0; i < seeds.length; i++) {
            for (int heading = 0; heading < 4; heading++) {
                OverTheHill x = Checks.landOf(lands[heading], ships[heading]);
                Checks.due("seed " + seeds[i] + ", over by " + heading, x.sieges(seeds[i], 1), heading == headings[i] ? 1 : 0);
            }
        }
    }

    /** "Nothing changes.": what was dragged in this HOUR, and what is USED, stays so, and counts. */
    private static void promise39NothingChanges() {
        OverTheHill x = Checks.landOf("~*", "10,00;10,00");
        x.drag(0, 1);
        x.drag(1, 1);
        Checks.due("all were dragged", x.sieges(2, 3), 0);
        Checks.rowDue("all were dragged", x, 2, 0);
        Checks.due("used", x.count(4), 22);
        Checks.due("to be undone", x.count(13), 2);
        Twin.asked("sieges", "~", y -> y.sieges(-7, 99));
    }

    /** "ALARMS by these" */
    private static void promise39AlarmsByThese() {
        OverTheHill x = Checks.ruled(Checks.landOf("~*", "1,00"), "10");
        x.set(1, 0);
        x.drag(0, 1);
        x.hours(1);
        x.drag(0, 3);
        Checks.due("alarms ahead of it", x.count(9), 1);
        Checks.due("dragged already, and loud", x.sieges(2, 3), 0);
        Checks.rowDue("dragged already, and loud", x, 0, 1);
        Checks.due("alarms behind it", x.count(9), 1);
    }
}
