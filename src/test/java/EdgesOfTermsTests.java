import java.util.Collections;

/** "Terms": each sentence that names an edge has a test here, with its words ahead of it. */
public final class EdgesOfTermsTests {
    /** A way over all 36 fields from 0 to 30 goes up or down by 1 at most, and each short cut by 2 at least. */
    static final String SNAIL = "012345/899876/765432/210001/345678/678999";

    public static void main(String[] args) throws Exception {
        Checks.runEach(EdgesOfTermsTests.class);
    }

    // ---- 1: land

    /** "LAND: ROWS 1 .. 6 of as many FIELDS each, 1 .. 6 (COLUMNS)" */
    private static void terms1RowsAndColumns() {
        for (int rows = 1; rows <= 6; rows++) {
            for (int columns = 1; columns <= 6; columns++) {
                String text = String.join("/", Collections.nCopies(rows, "1".repeat(columns)));
                OverTheHill x = Checks.landOf(text);
                Checks.due(text + ": rows", x.count(0), rows);
                Checks.due(text + ": columns", x.count(1), columns);
                int last = rows * columns - 1;
                Checks.due(text + ": the last field", x.field(last, 0), 0);
                Checks.noSuch(text + ": one behind it", () -> x.field(last + 1, 0));
            }
        }
    }

    /** "FIELD r * COLUMNS + c is that of ROW r, COLUMN c (each from 0 on)" */
    private static void terms1FieldsByRowsAndColumns() {
        OverTheHill x = Checks.landOf("~12/345/678/9~9", "1,00;1,10");
        for (int field = 1; field < 10; field++) {
            Checks.due("height of " + field, x.field(field, 1), field);
        }
        x.drag(0, 2);
        x.drag(1, 0);
        Checks.due("down by a row of 3", x.ship(0, 1), 3);
        Checks.due("up by a row of 3", x.ship(1, 1), 7);
    }

    /** "LAND of HEIGHT 0 .. 9, SEA, HARBOUR (both of HEIGHT 0), or ROCK" */
    private static void terms1Heights() {
        OverTheHill x = Checks.landOf("012345/6789~*");
        for (int field = 0; field < 10; field++) {
            Checks.due("land " + field, x.field(field, 0), 0);
            Checks.due("height " + field, x.field(field, 1), field);
        }
        Checks.due("sea", x.field(10, 0), 1);
        Checks.due("height of sea", x.field(10, 1), 0);
        Checks.due("harbour", x.field(11, 0), 2);
        Checks.due("height of harbour", x.field(11, 1), 0);
    }

    /** "On LAND there are PLANKS or none (at first none)." */
    private static void terms1NoPlanksAtFirst() {
        OverTheHill x = Checks.landOf("012345/6789~*");
        for (int field = 0; field < 12; field++) {
            Checks.due("planks at " + field, x.field(field, 2), 0);
        }
        Checks.due("fields with planks", x.count(10), 0);
    }

    /** "It is told by a text of at most 41 signs" */
    private static void terms1LandOf41Signs() {
        OverTheHill x = Checks.tell(new OverTheHill(), SNAIL);
        Checks.due("signs", x.count(15), 41);
        Checks.due("land of 41 signs", x.land(), 36);
        for (String more : new String[] {"1", "/", "~", " "}) {
            Checks.due("land of 42 signs", Checks.tell(x, SNAIL + more).land(), -42);
        }
    }

    /** "At first ~." */
    private static void terms1AtFirstSea() {
        OverTheHill x = new OverTheHill();
        Checks.due("its kind", x.field(0, 0), 1);
        Checks.due("its height", x.field(0, 1), 0);
        Checks.due("rows", x.count(0), 1);
        Checks.due("columns", x.count(1), 1);
        Checks.noSuch("a second field", () -> x.field(1, 0));
    }

    // ---- 1: ships, oxen

    /** "SHIPS 0 .. (at most 8)" */
    private static void terms1EightShips() {
        OverTheHill x = new OverTheHill();
        Checks.due("none", x.count(2), 0);
        for (int i = 1; i <= 8; i++) {
            Checks.due("ship " + i, Checks.tell(x, "1,00").ships(), 1);
            Checks.due("ships", x.count(2), i);
        }
        Checks.due("a ninth", Checks.tell(x, "1,00").ships(), -1);
        Checks.due("ships behind it", x.count(2), 8);
        Checks.due("the eighth", x.ship(7, 0), 1);
        Checks.noSuch("no ninth", () -> x.ship(8, 0));
    }

    /** "WEIGHT 1 .. 99" */
    private static void terms1Weights() {
        OverTheHill x = Checks.tell(new OverTheHill(), "1,00;01,00;9,00;10,00;99,00");
        Checks.due("five", x.ships(), 5);
        int[] weights = {1, 1, 9, 10, 99};
        for (int i = 0; i < weights.length; i++) {
            Checks.due("weight of " + i, x.ship(i, 0), weights[i]);
        }
        Checks.due("weight 0", Checks.tell(x, "0,00").ships(), -1);
        Checks.due("weight 100", Checks.tell(x, "100,00").ships(), -3);
    }

    /** "Any many may be at a FIELD of SEA or HARBOUR" */
    private static void terms1AnyManyAtSeaAndHarbour() {
        OverTheHill x = Checks.landOf("~*", "1,00;2,00;3,00;4,00;5,00;6,00;7,00;8,00");
        Checks.due("eight at sea", x.field(0, 3), 255);
        for (int i = 0; i < 8; i++) {
            Checks.due("into the harbour: " + i, x.drag(i, 1) >= 0, true);
        }
        Checks.due("eight in the harbour", x.field(1, 3), 255);
        x.hours(1);
        for (int i = 0; i < 8; i++) {
            Checks.due("back to sea: " + i, x.drag(i, 3) >= 0, true);
        }
        Checks.due("eight at sea again", x.field(0, 3), 255);
    }

    /** ".. one at a FIELD of LAND." */
    private static void terms1OneAtLand() {
        OverTheHill x = Checks.landOf("~1~", "1,00;1,02");
        x.drag(0, 1);
        Checks.due("a second one on land", x.drag(1, 3), -2);
        x.hours(1);
        x.drag(0, 1);
        Checks.due("when the first one is gone", x.drag(1, 3) >= 0, true);
        Checks.due("who is there", x.field(1, 3), 2);
    }

    /** "OXEN 0 .. 999 (at first 100); USED in this HOUR (at first 0)." */
    private static void terms1OxenAtFirst() {
        OverTheHill x = new OverTheHill();
        Checks.due("oxen", x.count(3), 100);
        Checks.due("used", x.count(4), 0);
        Checks.due("oxen 999", x.set(0, 999), 100);
        Checks.due("oxen 0", x.set(0, 0), 999);
        Checks.due("oxen 1000", x.set(0, 1000), -1);
        Checks.due("oxen -1", x.set(0, -1), -1);
    }

    /** "NIGHT (its number, at first 0), HOUR 0 .. 9 (at first 0)." */
    private static void terms1NightAndHour() {
        OverTheHill x = new OverTheHill();
        for (int gone = 0; gone < 50; gone++) {
            Checks.due("night", x.count(5), gone / 10);
            Checks.due("hour", x.count(6), gone % 10);
            x.hours(1);
        }
    }

    /** "EAR 0 .. 999 (at first 50); NOISE of this HOUR, ALARMS (at first 0)." */
    private static void terms1EarAtFirst() {
        OverTheHill x = new OverTheHill();
        Checks.due("ear", x.count(7), 50);
        Checks.due("noise", x.count(8), 0);
        Checks.due("alarms", x.count(9), 0);
        Checks.due("ear 999", x.set(1, 999), 50);
        Checks.due("ear 0", x.set(1, 0), 999);
        Checks.due("ear 1000", x.set(1, 1000), -1);
        Checks.due("ear -1", x.set(1, -1), -1);
    }

    // ---- 1: THE RULE

    /** Of a weight of 7 over the level, in the first hour. */
    private static void worth(String rule, int due) {
        OverTheHill x = Checks.ruled(Checks.landOf("~0", "7,00"), rule);
        Checks.due("worth of " + rule, x.pull(0, 1), due);
    }

    private static void bad(String rule, int place) {
        OverTheHill x = Checks.tell(new OverTheHill(), rule);
        Checks.due("rule of " + rule, x.rule(), -1 - place);
    }

    private static void good(String rule) {
        Checks.due("rule of " + rule, Checks.tell(new OverTheHill(), rule).rule(), 0);
    }

    /** "THE RULE is a text of at most 40 signs" */
    private static void terms1RuleOf40Signs() {
        String forty = "1+".repeat(19) + "11";
        Checks.due("forty", forty.length(), 40);
        worth(forty, 30);
        bad(forty + "1", 40);
        // A thing, a sign or a minus at each place: nothing of it may be lost.
        String all = "-w" + "+w".repeat(19);
        Checks.due("forty too", all.length(), 40);
        worth(all, 7 * 18);
        worth("-w" + "*1".repeat(18) + "+9", 2);
    }

    /** "(at first none: w*(1+u)/(1+g*2)+1)" */
    private static void terms1NoRuleAtFirst() {
        for (int height = 0; height <= 9; height++) {
            for (int weight : new int[] {1, 2, 50, 99}) {
                OverTheHill x = Checks.landOf("~" + height, weight + ",00");
                Checks.due("up by " + height, x.pull(0, 1), weight * (1 + height) + 1);
                x.plank(1);
                Checks.due("up on planks", x.pull(0, 1), weight * (1 + height) / 3 + 1);
                x.set(0, 999);
                x.drag(0, 1);
                Checks.due("down", x.pull(0, 3), weight + 1);
                Checks.ruled(x, "w*(1+u)/(1+g*2)+1");
                Checks.due("down, as it is told", x.pull(0, 3), weight + 1);
                x.hours(1);
                x.drag(0, 3);
                Checks.due("up on planks, as it is told", x.pull(0, 1), weight * (1 + height) / 3 + 1);
            }
        }
    }

    /** "< > = bind least (two; 1 or 0; ..)" */
    private static void terms1ComparedAre1Or0() {
        worth("1<2", 1);
        worth("2<2", 0);
        worth("3<2", 0);
        worth("3>2", 1);
        worth("2>2", 0);
        worth("1>2", 0);
        worth("2=2", 1);
        worth("2=3", 0);
        worth("3=2", 0);
        worth("1+2*3=7", 1);
        worth("3<1+1+1", 0);
        worth("3<1+1+2", 1);
        worth("0-5<-4", 1);
    }

    /** "(.. not one behind the other)" */
    private static void terms1ComparedNotOneBehindTheOther() {
        for (char first : "<>=".toCharArray()) {
            for (char second : "<>=".toCharArray()) {
                bad("1" + first + "2" + second + "3", 3);
                good("(1" + first + "2)" + second + "3");
                good("1" + first + "(2" + second + "3)");
                bad("1" + first + second + "3", 2);
            }
        }
    }

    /** "then + - (from the left)" */
    private static void terms1SumsFromTheLeft() {
        worth("9-4-3", 2);
        worth("9-4+3", 8);
        worth("9-(4-3)", 8);
    }

    /** "then * / (from the left; ..)" */
    private static void terms1ProductsFromTheLeft() {
        worth("100/7/2", 7);
        worth("100/(7/2)", 33);
        worth("7/2*2", 6);
        worth("2*7/2", 7);
        worth("1+7/2*2+1", 8);
    }

    /** "(.. by 0: 0; ..)" */
    private static void terms1ByZero() {
        worth("5/0", 0);
        worth("0/0", 0);
        worth("5/0+3", 3);
        worth("w/u", 0);
        worth("w/(w-7)", 0);
        worth("9-w/g", 9);
        worth("-5/0+2", 2);
    }

    /** "(.. cut to 0)" */
    private static void terms1CutToZero() {
        worth("7/2", 3);
        worth("-7/2+9", 6);
        worth("7/-2+9", 6);
        worth("-7/-2", 3);
        worth("-1/2+9", 9);
    }

    /** "then - ahead of a thing (any many)" */
    private static void terms1MinusAhead() {
        worth("-1+9", 8);
        worth("--1", 1);
        worth("-----1+9", 8);
        worth("9--1", 10);
        worth("9---1", 8);
        worth("2*-3+9", 3);
        worth("-(1+2)+9", 6);
        worth("-w+9", 2);
        worth("1<-2", 0);
        worth("-".repeat(38) + "1", 1);
        worth("-".repeat(39) + "1", 0);
        worth("-".repeat(37) + "1<0", 1);
        bad("-", 1);
        bad("1-", 2);
    }

    /** "a NUMBER of 1 to 3 digits" */
    private static void terms1NumbersOf1To3Digits() {
        worth("0", 0);
        worth("9", 9);
        worth("10", 10);
        worth("007", 7);
        worth("999", 999);
        bad("1000", 3);
        bad("0007", 3);
        bad("1+0000", 5);
    }

    /** "an EXPRESSION in ( ) (at most 4 in one another)" */
    private static void terms1FourBrackets() {
        worth("((((3))))", 3);
        bad("(((((3)))))", 4);
        worth("((((1))))+((((2))))", 3);
        bad("(1)+(((((1)))))", 8);
        worth("-(-(-(-(3))))", 3);
        bad("-(-(-(-(-(3)))))", 9);
        bad("()", 1);
    }

    /** "u by how much HEIGHT is more there (0 if it is not), v by how much it is less" */
    private static void terms1MoreAndLessHeight() {
        for (String land : new String[] {"~9", "~0", "~1"}) {
            int height = land.charAt(1) - '0';
            OverTheHill x = Checks.ruled(Checks.landOf(land, "1,00"), "u*10+v");
            Checks.due(land + ": up", x.pull(0, 1), 10 * height);
            x.drag(0, 1);
            Checks.due(land + ": down", x.pull(0, 3), height);
        }
        OverTheHill x = Checks.ruled(Checks.landOf("~4*", "1,00"), "u*10+v");
        x.drag(0, 1);
        Checks.due("down to the harbour", x.pull(0, 1), 4);
        x.hours(1);
        x.drag(0, 1);
        Checks.due("up from the harbour", x.pull(0, 3), 40);
    }

    /** "g 1 if PLANKS are there, else 0" */
    private static void terms1PlanksThere() {
        OverTheHill x = Checks.ruled(Checks.landOf("~11", "1,00"), "g");
        Checks.due("none", x.pull(0, 1), 0);
        x.plank(1);
        Checks.due("some there", x.pull(0, 1), 1);
        x.drag(0, 1);
        Checks.due("some where it is, none there", x.pull(0, 1), 0);
        x.plank(1);
        x.plank(2);
        Checks.due("none where it is, some there", x.pull(0, 1), 1);
    }

    /** "h HOUR" */
    private static void terms1HourInTheRule() {
        OverTheHill x = Checks.ruled(Checks.landOf("~~", "1,00"), "h");
        for (int gone = 0; gone < 21; gone++) {
            Checks.due("hours gone: " + gone, x.pull(0, 1), gone % 10);
            x.hours(1);
        }
    }

    /** "As ints" */
    private static void terms1AsInts() {
        worth("512*512*512*15>0", 1);
        worth("512*512*512*16<0", 1);
        worth("512*512*512*16-1>0", 1);
        worth("512*512*512*32=0", 1);
        worth("-(512*512*512*16)<0", 1);
        worth("512*512*512*16/-1<0", 1);
        worth("999*999*999*999", 0);
        worth("-(999*999*999*999)", 999);
    }

    /** "put to 0 .. 999: DRAG" */
    private static void terms1PutTo0To999() {
        worth("1-1", 0);
        worth("0-1", 0);
        worth("1-0", 1);
        worth("999-1", 998);
        worth("999", 999);
        worth("999+1", 999);
        worth("512*512*512*16", 0);
        worth("512*512*512*16-1", 999);
    }

    // ---- 1: nights

    /** "KIND of a NIGHT: its number by 4, rest: 0 a plain one; 1 drums; 2 moon; 3 rain." */
    private static void terms1KindsOfNights() {
        OverTheHill x = Checks.ruled(Checks.landOf("~~", "1,00"), "40");
        int[] pulls = {40, 40, 40, 60, 40};
        int[] noises = {4, 2, 8, 6, 4};
        for (int night = 0; night < 5; night++) {
            Checks.due("kind of night " + night, x.kind(0, 1), night % 4);
            Checks.due("pull in night " + night, x.pull(0, night % 2 == 0 ? 1 : 3), pulls[night]);
            x.drag(0, night % 2 == 0 ? 1 : 3);
            Checks.due("noise in night " + night, x.count(8), noises[night]);
            x.hours(10);
        }
    }

    /** "PULL: DRAG; in rain half of it (cut) more." */
    private static void terms1HalfMoreInRain() {
        OverTheHill x = Checks.landOf("~~", "1,00");
        x.hours(30);
        int[] drags = {0, 1, 2, 3, 99, 998, 999};
        int[] pulls = {0, 1, 3, 4, 148, 1497, 1498};
        for (int i = 0; i < drags.length; i++) {
            Checks.ruled(x, "" + drags[i]);
            Checks.due("in rain, drag " + drags[i], x.pull(0, 1), pulls[i]);
        }
    }

    /** "NOISE of a PULL: a tenth of it (cut); with drums half of that (cut); by moon twice that." */
    private static void terms1NoiseCut() {
        int[] pulls = {0, 9, 10, 19, 20, 29, 30, 39, 999};
        int[] plain = {0, 0, 1, 1, 2, 2, 3, 3, 99};
        int[] drums = {0, 0, 0, 0, 1, 1, 1, 1, 49};
        int[] moon = {0, 0, 2, 2, 4, 4, 6, 6, 198};
        for (int i = 0; i < pulls.length; i++) {
            int[] noises = {plain[i], drums[i], moon[i]};
            for (int night = 0; night < 3; night++) {
                OverTheHill x = Checks.ruled(Checks.landOf("~~", "1,00"), "" + pulls[i]);
                x.set(0, 999);
                if (night > 0) {
                    x.hours(10 * night);
                }
                x.drag(0, 1);
                Checks.due("noise of " + pulls[i] + " in night " + night, x.count(8), noises[night]);
            }
        }
    }

    /** In rain the tenth is that of the PULL: of 7 it is 10, of 6 it is 9. */
    private static void terms1NoiseInRain() {
        for (int drag = 6; drag <= 7; drag++) {
            OverTheHill x = Checks.ruled(Checks.landOf("~~", "1,00"), "" + drag);
            x.hours(30);
            x.drag(0, 1);
            Checks.due("used in rain, drag " + drag, x.count(4), drag + 3);
            Checks.due("noise in rain, drag " + drag, x.count(8), drag - 6);
        }
    }

    // ---- 1: drags and hours

    /** "A SHIP IS DRAGGED to a neighbouring FIELD (up, right, down, left: HEADING 0 .. 3)" */
    private static void terms1Headings() {
        int[] there = {1, 5, 7, 3};
        for (int heading = 0; heading < 4; heading++) {
            OverTheHill x = Checks.landOf("000/0~0/000", "1,04");
            x.drag(0, heading);
            Checks.due("heading " + heading, x.ship(0, 1), there[heading]);
        }
        OverTheHill x = Checks.landOf("000/0~0/000", "1,04");
        Checks.due("heading -1", x.drag(0, -1), -1);
        Checks.due("heading 4", x.drag(0, 4), -1);
    }

    /** "if that is no ROCK" */
    private static void terms1NotToRock() {
        OverTheHill x = Checks.landOf("0#0/#~#/0#0", "1,04");
        for (int heading = 0; heading < 4; heading++) {
            Checks.due("heading " + heading, x.drag(0, heading), -2);
        }
    }

    /** "not outside": a row's end is not the next one's first FIELD. */
    private static void terms1NotOutside() {
        OverTheHill x = Checks.landOf("~~~/~~~/~~~", "1,00;1,02;1,03;1,05;1,06;1,08");
        int[][] outside = {{0, 0}, {0, 3}, {1, 0}, {1, 1}, {2, 3}, {3, 1}, {4, 2}, {4, 3}, {5, 1}, {5, 2}};
        for (int[] a : outside) {
            Checks.due("ship " + a[0] + ", heading " + a[1], x.drag(a[0], a[1]), -2);
        }
        OverTheHill one = Checks.landOf("~", "1,00");
        for (int heading = 0; heading < 4; heading++) {
            Checks.due("of one field, heading " + heading, one.drag(0, heading), -2);
        }
    }

    /** "USED is PULL more, NOISE its NOISE more." */
    private static void terms1UsedAndNoiseAreMore() {
        OverTheHill x = Checks.ruled(Checks.landOf("~~", "19,00;10,00"), "w");
        x.drag(0, 1);
        Checks.due("used by one", x.count(4), 19);
        Checks.due("noise of one", x.count(8), 1);
        x.drag(1, 1);
        Checks.due("used by both", x.count(4), 29);
        Checks.due("noise of both, each cut by itself", x.count(8), 2);
    }

    /** "AN HOUR goes by: if NOISE is above EAR, ALARMS is 1 more" */
    private static void terms1AlarmAboveEar() {
        int[][] noiseEarAlarms = {{0, 0, 0}, {1, 0, 1}, {2, 3, 0}, {3, 3, 0}, {4, 3, 1}, {99, 99, 0}, {99, 98, 1}, {99, 999, 0}};
        for (int[] a : noiseEarAlarms) {
            OverTheHill x = Checks.ruled(Checks.landOf("~~", "1,00"), "" + a[0] * 10);
            x.set(0, 999);
            x.set(1, a[1]);
            x.drag(0, 1);
            x.hours(1);
            Checks.due("noise " + a[0] + ", ear " + a[1], x.count(9), a[2]);
        }
    }

    /** "USED, NOISE are 0, all SHIPS may be dragged again" */
    private static void terms1AnHourClears() {
        OverTheHill x = Checks.landOf("~~", "20,00;30,00");
        x.drag(0, 1);
        x.drag(1, 1);
        Checks.due("used", x.count(4), 52);
        Checks.due("noise", x.count(8), 5);
        x.hours(1);
        Checks.due("used then", x.count(4), 0);
        Checks.due("noise then", x.count(8), 0);
        Checks.due("the first may", x.drag(0, 3) >= 0, true);
        Checks.due("the second may", x.drag(1, 3) >= 0, true);
    }

    /** "HOUR is 1 more; if it would be 10, it is 0, and NIGHT is 1 more." */
    private static void terms1TenHoursANight() {
        OverTheHill x = new OverTheHill();
        x.hours(9);
        Checks.due("hour 9", x.count(6), 9);
        Checks.due("night 0", x.count(5), 0);
        x.hours(1);
        Checks.due("hour 0", x.count(6), 0);
        Checks.due("night 1", x.count(5), 1);
        Checks.due("from an hour on over two nights", x.hours(25), 35);
        Checks.due("hour 5", x.count(6), 5);
        Checks.due("night 3", x.count(5), 3);
    }

    // ---- 2

    /** The twins hold something of everything, else they could not show that nothing changes. */
    private static void terms2TwinsHoldAllThereIs() {
        OverTheHill x = Twin.underWay();
        int[] counts = {3, 3, 3, 120, 72, 1, 1, 0, 3, 1, 2, 1, 2, 6, 3, 0};
        for (int what = 0; what < counts.length; what++) {
            Checks.due("count(" + what + ")", x.count(what), counts[what]);
        }
        Checks.rowDue("twins", x, 0, 3, 1);
    }

    /** "ROW: numbers told last by a call that says so." */
    private static void terms2RowStaysWithOthers() {
        OverTheHill x = Checks.landOf("~2*/~11/#3*", "10,00;4,03");
        x.storm(2, 2);
        x.field(0, 0);
        x.ship(0, 0);
        x.pull(0, 1);
        x.set(0, 99);
        x.sheet(2, 2, 5, 5);
        x.keep(0);
        x.drag(0, 1);
        x.plank(1);
        x.undo();
        x.soon(5, 0, 2);
        x.over(0);
        x.quiet(5);
        x.told(5, 5);
        x.trace(5, 1);
        x.forget();
        x.sign(0);
        x.end(0);
        x.again(0);
        x.count(14);
        Checks.tell(x, "w+1").rule();
        Checks.tell(x, "9,00").ships();
        Checks.rowDue("calls that tell none", x, 0, 3, 1);
        Checks.tell(x, "~1*").land();
        Checks.rowDue("land anew", x, 0, 3, 1);
        x.pass();
        Checks.rowDue("one that tells its own", x, 7);
    }

    /** "numbers told": each call's own alone, none of a longer row before it. */
    private static void terms2RowIsTheLatestOne() {
        OverTheHill x = Checks.ruled(Checks.landOf(SNAIL), "u+v");
        Checks.due("a row of 36", x.way(1, 0, 30), 1);
        Checks.due("numbers", x.count(14), 36);
        x.pass();
        Checks.due("pass tells none here", x.count(14), 36);
        x.hours(1);
        Checks.rowDue("a row of 1", x, 0);
        x.secret(1, 5);
        Checks.rowDue("a row of 2", x, 1, 2);
        Checks.ruled(x, "9");
        Checks.due("none rest", x.rests(5, 1), 0);
        Checks.rowDue("a row of none", x);
    }

    /** "Sets of FIELDS are bits of longs (FIELD k is bit k)." */
    private static void terms2BitsOfLongs() {
        OverTheHill x = Checks.landOf("######/######/######/######/#####~/####*3");
        Checks.due("pass", x.pass(), 3);
        Checks.rowDue("pass", x, 1L << 29 | 1L << 34 | 1L << 35);
        Checks.due("planks", x.planks(9, 1), 13);
        Checks.rowDue("planks", x, 1L << 35);
        OverTheHill all = Checks.landOf("~00000/000000/000000/000000/000000/00000*");
        all.pass();
        Checks.rowDue("all", all, 68719476735L);
        OverTheHill about32 = Checks.landOf("######/######/######/######/######/~11*##");
        about32.pass();
        Checks.rowDue("about bit 32", about32, 15L << 30);
        about32.planks(9, 2);
        Checks.rowDue("planks at 31 and 32", about32, 3L << 31);
    }

    /** "Rows are compared from the first number on." */
    private static void terms2RowsFromTheFirstNumberOn() {
        OverTheHill x = Checks.ruled(Checks.landOf("0000/0990/0000/####"), "u");
        Checks.due("way", x.way(1, 3, 8), 0);
        Checks.rowDue("way", x, 3, 2, 1, 0, 4, 8);
        Checks.due("way back", x.way(1, 8, 3), 0);
        Checks.rowDue("way back", x, 8, 4, 0, 1, 2, 3);
    }

    /** "Fractions are told in lowest terms, upper and lower number (0 by 1)." */
    private static void terms2LowestTerms() {
        OverTheHill x = new OverTheHill();
        x.secret(1, 5);
        Checks.rowDue("5 by 10", x, 1, 2);
        x.secret(3, 10);
        Checks.rowDue("0 by 1000", x, 0, 1);
        x.secret(3, 0);
        Checks.rowDue("1000 by 1000", x, 1, 1);
    }

    /** "Questions change nothing." */
    private static void terms2QuestionsChangeNothing() {
        Twin.asked("field", "~", x -> x.field(1, 2));
        Twin.asked("ship", "~", x -> x.ship(1, 2));
        Twin.asked("pull", "~", x -> x.pull(2, 1));
        Twin.asked("way", "~", x -> x.way(7, 0, 8));
        Twin.asked("easy", "~", x -> x.easy(7, 0, 8));
        Twin.asked("soon", "~", x -> x.soon(7, 0, 8));
        Twin.asked("pass", "~", x -> x.pass());
        Twin.asked("oxen", "~", x -> x.oxen(2));
        Twin.asked("can", "~", x -> x.can());
        Twin.asked("planks", "~", x -> x.planks(7, 2));
        Twin.asked("over", "~", x -> x.over(2));
        Twin.asked("kind", "~", x -> x.kind(2, 5));
        Twin.asked("quiet", "~", x -> x.quiet(2));
        Twin.asked("night", "~", x -> x.night(7, 0, 8));
        Twin.asked("walls", "1234", x -> x.walls(20));
        Twin.asked("storm", "~", x -> x.storm(1, 2));
        Twin.asked("town", "~", x -> x.town(30, 7));
        Twin.asked("secret", "~", x -> x.secret(3, 4));
        Twin.asked("told", "~", x -> x.told(3, 4));
        Twin.asked("fits", "~", x -> x.fits());
        Twin.asked("ask", "~", x -> x.ask());
        Twin.asked("law", "w*2", x -> x.law(2));
        Twin.asked("rests", "~", x -> x.rests(9, 0));
        Twin.asked("sieges", "~", x -> x.sieges(12345, 99));
        Twin.asked("count", "~", x -> x.count(3));
        Twin.asked("row", "~", x -> x.row(0));
        Twin.asked("end of all of it", "~", x -> x.end(1) ? 1 : 0);
    }

    /** "THE TEXT, which a call that reads it empties": if it is refused, too, and no other call does. */
    private static void terms2ReadersEmptyTheText() {
        String[] good = {"~", "1,00", "w", "h1", "12", "w"};
        String[] bad = {"x", "x", "x", "x", "x", "x"};
        for (int reader = 0; reader < 6; reader++) {
            OverTheHill x = Checks.landOf("~~", "1,00");
            for (String text : new String[] {good[reader], bad[reader], ""}) {
                long answer = read(Checks.tell(x, text), reader);
                Checks.due("reader " + reader + " of " + text + ": signs", x.count(15), 0);
                if (text.equals("x")) {
                    Checks.due("reader " + reader + " of " + text, answer, reader == 5 ? -10000 : -1);
                }
                if (x.count(2) == 0) {
                    Checks.tell(x, "1,00").ships();
                }
            }
        }
    }

    private static long read(OverTheHill x, int reader) {
        switch (reader) {
            case 0:
                return x.land();
            case 1:
                return x.ships();
            case 2:
                return x.rule();
            case 3:
                return x.siege();
            case 4:
                return x.walls(5);
            default:
                return x.law(0);
        }
    }

    /** "Of several answers below 0 that fit NONE is first" */
    private static void terms2NoneIsFirst() {
        OverTheHill x = Checks.landOf("~#*", "1,00");
        Checks.due("no such ship, outside too", x.pull(1, 0), -1);
        Checks.due("no such heading, rock too", x.drag(0, 5), -1);
        Checks.due("no such ship to drag to rock", x.drag(-1, 1), -1);
        Checks.due("a weight of 0, rock too", x.way(0, 1, 0), -1);
        Checks.due("no such field, from rock", x.easy(1, 1, 3), -1);
        Checks.due("no such field, to rock", x.soon(1, -1, 1), -1);
        Checks.due("a weight of 100, no way too", x.night(100, 0, 2), -1);
        Checks.due("3 planks, no way too", x.planks(1, 3), -1);
        Checks.due("a weight of 0, no way too", x.planks(0, 1), -1);
        Checks.due("kind 4, n below 0 too", x.sheet(4, -1, 1, 1), -1);
        Checks.due("12 tenths, never so", x.told(12, 100), -1);
        Checks.due("a field that is none", x.plank(-1), -1);
    }

    /** "then as they are told" */
    private static void terms2ThenAsTold() {
        OverTheHill x = Checks.landOf("~1#", "20,00;20,00");
        x.drag(0, 1);
        x.set(0, 41);
        Checks.due("-2, -3 and -4 fit: rock", x.drag(0, 1), -2);
        Checks.due("-3 and -4 fit: dragged, and too few", x.drag(0, 3), -3);
        Checks.due("-2 and -4 fit: a ship there, and too few", x.drag(1, 1), -2);
        x.hours(1);
        x.set(0, 20);
        Checks.due("-4 alone fits", x.drag(0, 3), -4);
    }

    /** "but where another one is asked first" */
    private static void terms2ButWhereAnotherIsFirst() {
        OverTheHill x = new OverTheHill();
        Checks.due("sieges: no ships, another n too", x.sieges(1, 0), -2);
        Checks.due("law: no such ship, another text too", Checks.tell(x, "x").law(0), -20000);
        Checks.due("walls: another m, another text too", Checks.tell(x, "x").walls(100), -100);
        Checks.due("sheet: n above 8, missing too", x.sheet(3, 9, 1, 1), -1);
    }

    /** "The ROW stays with NONE and with each number below 0 that tells why there is no answer (-2, -3 ..)" */
    private static void terms2RowStaysWithNoAnswer() {
        OverTheHill x = Checks.landOf("~#*", "1,00");
        x.storm(2, 2);
        x.hours(31);
        x.way(0, 0, 0);
        x.way(1, 0, 2);
        x.easy(1, 9, 0);
        x.easy(1, 0, 1);
        x.pass();
        x.oxen(1);
        x.oxen(0);
        x.planks(1, 3);
        x.planks(1, 0);
        x.kind(100, 0);
        x.night(1, 0, 3);
        x.night(1, 0, 2);
        x.storm(7, 0);
        x.town(0, 1);
        x.secret(13, 0);
        x.rests(0, 0);
        x.sieges(1, 100);
        Checks.tell(x, "x").siege();
        Checks.tell(x, "").walls(5);
        Checks.tell(x, "12").walls(-1);
        Checks.tell(x, "x").law(0);
        Checks.tell(x, "w").law(1);
        x.trace(1, 0);
        Checks.due("none fit", x.ask(), -2);
        Checks.rowDue("no answers", x, 0, 3, 1);
        Checks.tell(x, "~").land();
        x.sieges(1, 1);
        Checks.rowDue("no ships", x, 0, 3, 1);
    }

    /** "a number below 0 that is meant as such comes with its ROW" */
    private static void terms2NumbersMeantBelow0() {
        OverTheHill x = Checks.ruled(Checks.landOf("~*", "1,00"), "(h<3)*999");
        x.storm(2, 2);
        Checks.due("law", Checks.tell(x, "1").law(0), 1 - 4);
        Checks.rowDue("law", x, 1, 4);
        Checks.ruled(x, "999");
        Checks.due("law, the least", Checks.tell(x, "1").law(0), 1 - 61);
        Checks.rowDue("law, the least", x, 1, 61);
    }
}
