/** Promises 12 to 16: each sentence that names an edge has a test here, with its words ahead of it. */
public final class EdgesOfActsTests {
    private static final String HILL = Twin.HILL;

    public static void main(String[] args) throws Exception {
        Checks.runEach(EdgesOfActsTests.class);
    }

    // ---- 12: drag

    /** "OXEN that are not USED then": none, if the PULL takes all of them. */
    private static void promise12OxenNotUsedThen() {
        OverTheHill x = Checks.landOf("~1~*", "10,00;20,02");
        Checks.due("of 100", x.drag(0, 1), 79);
        Checks.due("of 79", x.drag(1, 1), 58);
        OverTheHill all = Checks.landOf("~1~*", "10,00;20,02");
        all.set(0, 21);
        Checks.due("of 21", all.drag(0, 1), 0);
        Checks.due("all are used", all.count(4), 21);
        Checks.due("it is there", all.ship(0, 1), 1);
        Checks.due("it can be undone", all.count(13), 1);
    }

    /** A PULL of 0 needs none: it is done without OXEN, too. */
    private static void promise12PullOf0() {
        OverTheHill x = Checks.ruled(Checks.landOf("~*", "10,00"), "0");
        x.set(0, 0);
        Checks.due("without oxen", x.drag(0, 1), 0);
        Checks.due("it is over", x.count(11), 1);
    }

    /** "-2: it can't (as pull())" */
    private static void promise12Cant() {
        Twin.refused("outside, up", x -> x.drag(2, 0), -2);
        Twin.refused("outside, left", x -> x.drag(2, 3), -2);
        OverTheHill x = Checks.landOf("~1~/###", "10,00;20,02");
        x.drag(0, 1);
        Checks.due("a ship on land there", x.drag(1, 3), -2);
        Checks.due("rock", x.drag(1, 2), -2);
        Checks.due("outside, right", x.drag(1, 1), -2);
        Checks.due("used", x.count(4), 21);
        Checks.due("to be undone", x.count(13), 1);
    }

    /** "-3: it was in this HOUR" */
    private static void promise12WasInThisHour() {
        Twin.refused("dragged already, to sea", x -> x.drag(1, 3), -3);
        Twin.refused("dragged already, on land", x -> x.drag(1, 1), -3);
        OverTheHill x = Checks.landOf("~~", "10,00");
        x.drag(0, 1);
        Checks.due("back in the same hour", x.drag(0, 3), -3);
        x.hours(1);
        Checks.due("an hour later", x.drag(0, 3), 89);
    }

    /** "-4: OXEN that are not USED are fewer than PULL" */
    private static void promise12FewerThanPull() {
        OverTheHill x = Checks.landOf("~1~*", "10,00;20,02");
        x.set(0, 20);
        Checks.due("20 for 21", x.drag(0, 1), -4);
        Checks.due("used", x.count(4), 0);
        Checks.due("where it is", x.ship(0, 1), 0);
        Checks.due("dragged", x.ship(0, 2), 0);
        x.set(0, 21);
        Checks.due("21 for 21", x.drag(0, 1), 0);
        x.set(0, 41);
        Checks.due("20 of 41 for 21", x.drag(1, 1), -4);
        Checks.due("used then", x.count(4), 21);
        Checks.due("to be undone", x.count(13), 1);
        x.set(0, 42);
        Checks.due("21 of 42 for 21", x.drag(1, 1), 0);
    }

    /** In rain a PULL can be above all the OXEN that there can be. */
    private static void promise12FewerThanPullInRain() {
        OverTheHill x = Checks.ruled(Checks.landOf("~~", "1,00"), "999");
        x.set(0, 999);
        x.hours(29);
        Checks.due("999 by moon", x.drag(0, 1), 0);
        x.hours(1);
        Checks.due("1498 in rain", x.drag(0, 3), -4);
        Checks.due("used", x.count(4), 0);
        Checks.due("to be undone", x.count(13), 3);
    }

    /** undo() can bring back more USED than there are OXEN: then none are left, for a PULL of 0 neither. */
    private static void promise12MoreUsedThanOxen() {
        OverTheHill x = Checks.landOf("~~", "10,00;1,00");
        x.drag(0, 1);
        x.hours(1);
        x.set(0, 5);
        x.undo();
        Checks.due("used", x.count(4), 11);
        Checks.due("oxen", x.count(3), 5);
        Checks.due("a pull of 2", x.drag(1, 1), -4);
        Checks.due("oxen below used", x.set(0, 10), -1);
        Checks.due("oxen as used", x.set(0, 11), 5);
    }

    /** "NONE: none such." */
    private static void promise12NoneSuch() {
        Twin.refused("ship -1", x -> x.drag(-1, 1), -1);
        Twin.refused("ship 3 of three", x -> x.drag(3, 1), -1);
        Twin.refused("ship 8", x -> x.drag(8, 1), -1);
        Twin.refused("heading -1", x -> x.drag(2, -1), -1);
        Twin.refused("heading 4", x -> x.drag(2, 4), -1);
        Twin.refused("the least", x -> x.drag(Integer.MIN_VALUE, Integer.MIN_VALUE), -1);
        Twin.refused("the most", x -> x.drag(Integer.MAX_VALUE, Integer.MAX_VALUE), -1);
    }

    // ---- 13: plank

    /** "PLANKS are laid at a FIELD, or taken up, if they are there: how many FIELDS have some then." */
    private static void promise13LaidAndTakenUp() {
        OverTheHill x = Checks.landOf(HILL, "10,00");
        int[] fields = {1, 4, 1, 5, 7, 4, 5, 7};
        int[] due = {1, 2, 1, 2, 3, 2, 1, 0};
        for (int i = 0; i < fields.length; i++) {
            Checks.due("plank " + i, x.plank(fields[i]), due[i]);
            Checks.due("fields with planks", x.count(10), due[i]);
            Checks.due("to be undone", x.count(13), i + 1);
        }
    }

    /** On all 36 FIELDS, and taken up again till there are none. */
    private static void promise13AllFields() {
        OverTheHill x = Checks.landOf(EdgesOfTermsTests.SNAIL);
        for (int field = 0; field < 36; field++) {
            Checks.due("laid at " + field, x.plank(field), field + 1);
        }
        for (int field = 35; field >= 0; field--) {
            Checks.due("planks at " + field, x.field(field, 2), 1);
            Checks.due("taken up at " + field, x.plank(field), field);
            Checks.due("no planks at " + field, x.field(field, 2), 0);
        }
    }

    /** A FIELD of LAND at which a SHIP is is LAND too. */
    private static void promise13BeneathAShip() {
        OverTheHill x = Checks.landOf("~1*", "10,00");
        x.drag(0, 1);
        Checks.due("laid", x.plank(1), 1);
        Checks.due("taken up", x.plank(1), 0);
    }

    /** "-2: it is no LAND" */
    private static void promise13NoLand() {
        Twin.refused("sea", x -> x.plank(0), -2);
        Twin.refused("harbour", x -> x.plank(8), -2);
        Twin.refused("rock", x -> x.plank(6), -2);
    }

    /** "NONE: none such." */
    private static void promise13NoneSuch() {
        for (int field : new int[] {-1, 9, 36, 63, 64, 65, Integer.MIN_VALUE, Integer.MAX_VALUE}) {
            Twin.refused("field " + field, x -> x.plank(field), -1);
        }
    }

    // ---- 14: hours

    /** "n HOURS (1 .. 30) go by: 10 times NIGHT and HOUR, added" */
    private static void promise14From1To30() {
        OverTheHill x = new OverTheHill();
        Checks.due("1", x.hours(1), 1);
        Checks.due("30", x.hours(30), 31);
        Checks.due("9", x.hours(9), 40);
        Checks.due("night", x.count(5), 4);
        Checks.due("hour", x.count(6), 0);
    }

    /** Hours do not stop at a number of nights: 450 times 30 of them go by. */
    private static void promise14ManyNights() {
        OverTheHill x = new OverTheHill();
        for (int i = 1; i <= 450; i++) {
            Checks.due("30 for the time " + i, x.hours(30), 30 * i);
        }
        Checks.due("night", x.count(5), 1350);
        Checks.due("its kind", x.kind(0, 0), 2);
    }

    /** "the ROW: ALARMS by these" */
    private static void promise14AlarmsByThese() {
        OverTheHill x = Twin.underWay();
        Checks.due("alarms ahead", x.count(9), 1);
        Checks.due("thirty", x.hours(30), 41);
        Checks.rowDue("thirty", x, 1);
        Checks.due("alarms then", x.count(9), 2);
        Checks.due("thirty more", x.hours(30), 71);
        Checks.rowDue("thirty more", x, 0);
        Checks.due("alarms still", x.count(9), 2);
    }

    /** "Refused: another n." */
    private static void promise14AnotherN() {
        for (int n : new int[] {0, -1, 31, Integer.MIN_VALUE, Integer.MAX_VALUE}) {
            Twin.refused("hours(" + n + ")", x -> x.hours(n), -1);
        }
    }

    // ---- 15: siege

    private static void badSiege(String text, int place) {
        Twin.refusedText("siege", text, x -> x.siege(), -1 - place);
    }

    /** "(an empty one: nothing is done)" */
    private static void promise15EmptyText() {
        OverTheHill x = Twin.underWay();
        Checks.due("empty", x.siege(), 0);
        Checks.rowDue("empty", x, 0, 1);
        Checks.due("to be undone", x.count(13), 6);
        Checks.due("undone then", x.undo(), 5);
        Checks.due("the plank ahead of it", x.field(5, 2), 0);
        OverTheHill fresh = new OverTheHill();
        Checks.due("empty, in a new object", fresh.siege(), 0);
        Checks.rowDue("empty, in a new object", fresh, 0, 0);
    }

    /** "d, a digit (SHIP), a digit 0 .. 3 (HEADING): drag()" */
    private static void promise15Drags() {
        OverTheHill x = Checks.landOf("0~0/~~~/0~0", "1,04");
        int[] there = {1, 5, 7, 3};
        for (int heading = 0; heading < 4; heading++) {
            Checks.due("heading " + heading, Checks.tell(x, "d0" + heading).siege(), 1);
            Checks.rowDue("heading " + heading, x, 0, 0);
            Checks.due("where", x.ship(0, 1), there[heading]);
            x.undo();
        }
        badSiege("d04", 2);
        badSiege("d09", 2);
        OverTheHill eight = Checks.landOf("~*", "1,00;1,00;1,00;1,00;1,00;1,00;1,00;1,00");
        Checks.due("ship 7, ship 8", Checks.tell(eight, "d71d81").siege(), 1);
        Checks.rowDue("ship 7, ship 8", eight, 1, 1);
        Checks.due("ship 9", Checks.tell(eight, "d91").siege(), 0);
        Checks.rowDue("ship 9", eight, 1, 1);
    }

    /** "p and two digits (a FIELD): plank()" */
    private static void promise15Planks() {
        OverTheHill x = Checks.landOf("000000/000000/000000/000000/000000/00000~");
        Checks.due("the first and the last", Checks.tell(x, "p00p34").siege(), 2);
        Checks.due("planks", x.count(10), 2);
        Checks.due("taken up is done, too", Checks.tell(x, "p00p34").siege(), 2);
        Checks.due("no planks", x.count(10), 0);
        for (String refused : new String[] {"p35", "p36", "p99"}) {
            Checks.due(refused, Checks.tell(x, refused).siege(), 0);
            Checks.rowDue(refused, x, 1, 0);
        }
        Checks.due("to be undone", x.count(13), 2);
    }

    /** "h and a digit 1 .. 9: hours()" */
    private static void promise15Hours() {
        OverTheHill x = new OverTheHill();
        Checks.due("1 and 9", Checks.tell(x, "h1h9").siege(), 2);
        Checks.due("night", x.count(5), 1);
        Checks.due("hour", x.count(6), 0);
        badSiege("h0", 1);
        badSiege("h10", 2);
    }

    /** "they are done one by one, till one is refused (it answers below 0): how many were done" */
    private static void promise15TillOneIsRefused() {
        String[] refused = {"d90", "d02", "d00", "p03", "p99"};
        for (String act : refused) {
            OverTheHill x = Checks.landOf("~1*/###", "1,00");
            Checks.due(act + " behind two", Checks.tell(x, "p01h1" + act + "h1p01").siege(), 2);
            Checks.rowDue(act + " behind two", x, 1, 0);
            Checks.due(act + ": hour", x.count(6), 1);
            Checks.due(act + ": planks", x.count(10), 1);
            Checks.due(act + ": signs", x.count(15), 0);
        }
        OverTheHill x = Checks.landOf("~1*", "1,00");
        Checks.due("dragged twice in an hour", Checks.tell(x, "d01d01h1").siege(), 1);
        Checks.rowDue("dragged twice in an hour", x, 1, 0);
        x.undo();
        x.set(0, 2);
        Checks.due("too few oxen", Checks.tell(x, "h1d01h1").siege(), 1);
        Checks.rowDue("too few oxen", x, 1, 0);
        x.undo();
        x.set(0, 3);
        Checks.due("one that answers 0 is done", Checks.tell(x, "d01h1").siege(), 2);
        Checks.rowDue("one that answers 0 is done", x, 0, 0);
    }

    /** "1 if one was refused, else 0": the last of them, too. */
    private static void promise15RefusedAtTheEnd() {
        OverTheHill x = Checks.landOf("~1*", "1,00");
        Checks.due("the last is refused", Checks.tell(x, "h1h1d00").siege(), 2);
        Checks.rowDue("the last is refused", x, 1, 0);
        Checks.due("none is refused", Checks.tell(x, "d01h1d01").siege(), 3);
        Checks.rowDue("none is refused", x, 0, 1);
        Checks.due("the first is refused", Checks.tell(x, "d01").siege(), 0);
        Checks.rowDue("the first is refused", x, 1, 1);
    }

    /** "how many SHIPS are in the HARBOUR then": all of them, not those brought by this one alone. */
    private static void promise15InTheHarbourThen() {
        OverTheHill x = Checks.landOf("~*", "1,00;1,00;1,00;1,00;1,00;1,00;1,00;1,00");
        Checks.due("seven", Checks.tell(x, "d01d11d21d31d41d51d61").siege(), 7);
        Checks.rowDue("seven", x, 0, 7);
        Checks.due("all", Checks.tell(x, "d71").siege(), 1);
        Checks.rowDue("all", x, 0, 8);
        Checks.due("one leaves", Checks.tell(x, "h1d03").siege(), 2);
        Checks.rowDue("one leaves", x, 0, 7);
    }

    /** "-1 - p: the sign at p can't stand there" */
    private static void promise15SignsThatCantStand() {
        badSiege("x", 0);
        badSiege("0", 0);
        badSiege("D01", 0);
        badSiege("dx1", 1);
        badSiege("d0x", 2);
        badSiege("d011", 3);
        badSiege("px1", 1);
        badSiege("p0x", 2);
        badSiege("p011", 3);
        badSiege("hx", 1);
        badSiege("h12", 2);
        badSiege("h1d01x", 5);
        badSiege("h1 d01", 2);
        badSiege("h1;d01", 2);
        badSiege("h1" + (char) 0, 2);
        badSiege("h" + (char) 255, 1);
    }

    /** "(its end, if it ends too early; ..)" */
    private static void promise15EndsTooEarly() {
        badSiege("d", 1);
        badSiege("d0", 2);
        badSiege("p", 1);
        badSiege("p0", 2);
        badSiege("h", 1);
        badSiege("h1d", 3);
        badSiege("h1d0", 4);
        badSiege("h1p", 3);
        badSiege("h1p0", 4);
        badSiege("h1h", 3);
        badSiege("h1".repeat(28) + "p01h", 60);
    }

    /** "60, if it has more and the first 60 could go on or end" */
    private static void promise15MoreThan60Signs() {
        OverTheHill x = new OverTheHill();
        Checks.due("sixty signs", Checks.tell(x, "h1".repeat(30)).siege(), 30);
        Checks.due("sixty signs: night", x.count(5), 3);
        Checks.due("undone as one", x.undo(), 0);
        badSiege("h1".repeat(30) + "h", 60);
        badSiege("h1".repeat(30) + "x", 60);
        badSiege("h1".repeat(30) + "h1", 60);
        badSiege("h1".repeat(40), 60);
        badSiege("h1".repeat(29) + "d01", 60);
        badSiege("h1".repeat(29) + "p0x", 60);
        badSiege("h1".repeat(28) + "p01hx", 60);
    }

    /** ".. could go on or end": one of the first 60 that can't stand comes first. */
    private static void promise15Among60Signs() {
        badSiege("h1".repeat(29) + "hx1", 59);
        badSiege("h1".repeat(29) + "dx1", 59);
        badSiege("h1".repeat(28) + "p01x1", 59);
        badSiege("x" + "h1".repeat(39), 0);
    }

    /** "nothing is done then": of a text that goes wrong at its end, neither. */
    private static void promise15NothingIsDoneThen() {
        badSiege("p01h9d20p04x", 11);
        badSiege("p05p05p05p05p05p05h", 19);
    }

    // ---- 16: undo

    /** "of 15 that are kept, the latest ones" */
    private static void promise16Fifteen() {
        for (int acts = 14; acts <= 16; acts++) {
            OverTheHill x = new OverTheHill();
            for (int i = 0; i < acts; i++) {
                x.hours(1);
            }
            int many = Math.min(acts, 15);
            Checks.due(acts + " acts", x.count(13), many);
            for (int left = many - 1; left >= 0; left--) {
                Checks.due(acts + " acts, undo", x.undo(), left);
            }
            Checks.due(acts + " acts, no more", x.undo(), -1);
            Checks.due(acts + " acts, hours that stay", x.count(6) + 10 * x.count(5), acts - many);
        }
    }

    /** When all 15 are taken, one undone makes room for one, and the ring goes round more than once. */
    private static void promise16RoundAndRound() {
        OverTheHill x = new OverTheHill();
        for (int i = 0; i < 40; i++) {
            x.hours(1);
        }
        for (int i = 0; i < 40; i++) {
            Checks.due("one undone", x.undo(), 14);
            Checks.due("one done", x.hours(1), 40);
            Checks.due("fifteen", x.count(13), 15);
        }
        for (int left = 14; left >= 0; left--) {
            x.undo();
            Checks.due("night and hour", 10 * x.count(5) + x.count(6), 25 + left);
        }
        Checks.due("no more", x.undo(), -1);
    }

    /** "such as were done": refused ones are none of them. */
    private static void promise16SuchAsWereDone() {
        OverTheHill x = Checks.landOf("~1*", "10,00");
        x.hours(2);
        x.drag(0, 0);
        x.drag(1, 0);
        x.plank(0);
        x.plank(9);
        x.hours(0);
        x.hours(31);
        Checks.tell(x, "d00h1").siege();
        Checks.tell(x, "h1x").siege();
        Checks.tell(x, "").siege();
        Checks.due("to be undone", x.count(13), 1);
        Checks.due("undo", x.undo(), 0);
        Checks.due("hour", x.count(6), 0);
    }

    /** "siege() of which one act was done, as one" */
    private static void promise16SiegeAsOne() {
        OverTheHill x = Checks.landOf("~1*", "10,00");
        Checks.tell(x, "d01p01h5d01h5").siege();
        Checks.due("five acts", x.count(13), 1);
        Checks.tell(x, "h1d00").siege();
        Checks.due("one act, and one refused", x.count(13), 2);
        Checks.tell(x, "d00h1").siege();
        Checks.due("none done", x.count(13), 2);
        Checks.due("the one act undone", x.undo(), 1);
        Checks.due("hour", x.count(6), 0);
        Checks.due("night", x.count(5), 1);
        Checks.due("the five undone", x.undo(), 0);
        Checks.due("night then", x.count(5), 0);
        Checks.due("where", x.ship(0, 1), 0);
        Checks.due("planks", x.count(10), 0);
        Checks.due("dragged", x.ship(0, 2), 0);
    }

    /** "(PLANKS, where SHIPS are, what was dragged, USED, NIGHT, HOUR, NOISE, ALARMS are as ahead of it)" */
    private static void promise16AsAheadOfIt() {
        OverTheHill x = Checks.landOf("~1*", "40,00");
        x.set(1, 0);
        x.plank(1);
        x.drag(0, 1);
        int[] ahead = new int[12];
        for (int what = 4; what <= 11; what++) {
            ahead[what] = x.count(what);
        }
        Checks.due("used ahead", ahead[4], 27);
        Checks.due("noise ahead", ahead[8], 2);
        Checks.tell(x, "p01h9d01h5d03h1").siege();
        Checks.due("alarms between", x.count(9), 3);
        Checks.due("undo", x.undo(), 2);
        for (int what = 4; what <= 11; what++) {
            Checks.due("count(" + what + ")", x.count(what), ahead[what]);
        }
        Checks.due("planks", x.field(1, 2), 1);
        Checks.due("where", x.ship(0, 1), 1);
        Checks.due("dragged", x.ship(0, 2), 1);
        Checks.due("dragged, so not again", x.drag(0, 1), -3);
    }

    /** "The latest drag(), plank(), hours() or siege()": each of them, with nothing of the others. */
    private static void promise16EachOfThem() {
        for (int act = 0; act < 4; act++) {
            OverTheHill x = Checks.landOf("~11*", "10,00;20,00");
            Checks.tell(x, "p01d01").siege();
            x.hours(1);
            x.drag(0, 1);
            x.plank(2);
            Checks.due("act " + act + " is done", done(x, act) >= 0, true);
            Checks.due("act " + act + " is undone", x.undo(), 4);
            Checks.due("act " + act + ": used", x.count(4), 11);
            Checks.due("act " + act + ": hour", x.count(6), 1);
            Checks.due("act " + act + ": planks", x.count(10), 2);
            Checks.due("act " + act + ": the first ship", x.ship(0, 1), 2);
            Checks.due("act " + act + ": the second ship", x.ship(1, 1), 0);
            Checks.due("act " + act + ": the first was dragged", x.ship(0, 2), 1);
            Checks.due("act " + act + ": the second was not", x.ship(1, 2), 0);
        }
    }

    private static long done(OverTheHill x, int act) {
        switch (act) {
            case 0:
                return x.drag(1, 1);
            case 1:
                return x.plank(1);
            case 2:
                return x.hours(30);
            default:
                return Checks.tell(x, "d11h1").siege();
        }
    }

    /** "where SHIPS are": of all 8. */
    private static void promise16AllShips() {
        OverTheHill x = Checks.landOf("~*", "1,00;1,00;1,00;1,00;1,00;1,00;1,00;1,00");
        for (int ship = 0; ship < 8; ship++) {
            x.drag(ship, 1);
        }
        Checks.due("in the harbour", x.count(11), 255);
        for (int ship = 7; ship >= 0; ship--) {
            Checks.due("undo", x.undo(), ship);
            Checks.due("ships that are left", x.count(11), (1 << ship) - 1);
            Checks.due("it was not dragged", x.ship(ship, 2), 0);
        }
    }

    /** "Refused: none." */
    private static void promise16None() {
        OverTheHill x = Checks.landOf("~1*", "10,00");
        Checks.due("none", x.undo(), -1);
        x.hours(1);
        Checks.due("one", x.undo(), 0);
        Checks.due("none again", x.undo(), -1);
        Checks.due("hour", x.count(6), 0);
        x.storm(2, 2);
        x.undo();
        Checks.rowDue("the row stays", x, 0, 3, 1);
    }

    /** Of other calls none can be undone. */
    private static void promise16OtherCallsAreNone() {
        OverTheHill x = Checks.landOf("~1*", "10,00");
        x.set(0, 50);
        x.set(1, 5);
        x.sheet(2, 1, 5, 5);
        x.keep(0);
        x.trace(5, 1);
        x.forget();
        x.sieges(1, 99);
        Checks.tell(x, "w").rule();
        Checks.tell(x, "w").law(0);
        Checks.due("to be undone", x.count(13), 0);
        Checks.due("undo", x.undo(), -1);
        Checks.due("weight", x.ship(0, 0), 5);
    }

    /** "land(), ships() and again() forget them, if they are not refused; an empty ships() does not" */
    private static void promise16Forgotten() {
        OverTheHill x = Checks.landOf("~1*", "10,00");
        x.keep(0);
        x.hours(1);
        Checks.tell(x, "x").land();
        Checks.tell(x, "").land();
        Checks.due("land() refused", x.count(13), 1);
        Checks.tell(x, "1,01").ships();
        Checks.due("ships() refused", x.count(13), 1);
        Checks.tell(x, "").ships();
        Checks.due("ships() of none", x.count(13), 1);
        x.again(-1);
        x.again(1);
        x.again(3);
        Checks.due("again() refused", x.count(13), 1);
        x.again(0);
        Checks.due("again()", x.count(13), 0);
        Checks.due("behind again()", x.undo(), -1);
        x.hours(1);
        Checks.tell(x, "1,00").ships();
        Checks.due("ships()", x.count(13), 0);
        Checks.due("behind ships()", x.undo(), -1);
        Checks.due("hours stay", x.count(6), 1);
        x.hours(1);
        Checks.tell(x, "~1*").land();
        Checks.due("land()", x.count(13), 0);
        Checks.due("behind land()", x.undo(), -1);
    }
}
