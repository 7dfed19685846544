/** Promises 1 to 11: each sentence that names an edge has a test here, with its words ahead of it. */
public final class EdgesOfLandTests {
    private static final String HILL = Twin.HILL;
    private static final String EIGHT = "1,00;2,00;3,00;4,00;5,00;6,00;7,00;88,00";

    public static void main(String[] args) throws Exception {
        Checks.runEach(EdgesOfLandTests.class);
    }

    // ---- 1: a new object

    /** "A FIELD of SEA; no SHIPS." */
    private static void promise01NewObject() {
        OverTheHill x = new OverTheHill();
        int[] counts = {1, 1, 0, 100, 0, 0, 0, 50, 0, 0, 0, 0, 0, 0, 0, 0};
        for (int what = 0; what < counts.length; what++) {
            Checks.due("count(" + what + ")", x.count(what), counts[what]);
        }
        int[] field = {1, 0, 0, 0};
        for (int what = 0; what < field.length; what++) {
            Checks.due("field(0, " + what + ")", x.field(0, what), field[what]);
        }
        Checks.rowDue("new", x);
    }

    /** What a new object has none of: all calls that look for it answer so. */
    private static void promise01NothingInIt() {
        OverTheHill x = new OverTheHill();
        Checks.noSuch("field 1", () -> x.field(1, 0));
        Checks.noSuch("ship 0", () -> x.ship(0, 0));
        Checks.due("pull", x.pull(0, 0), -1);
        Checks.due("drag", x.drag(0, 0), -1);
        Checks.due("undo", x.undo(), -1);
        Checks.due("pass", x.pass(), -2);
        Checks.due("oxen", x.oxen(0), -1);
        Checks.due("planks", x.planks(1, 0), -2);
        Checks.due("over", x.over(0), -1);
        Checks.due("ask", x.ask(), -2);
        Checks.due("law", x.law(0), -20000);
        Checks.due("sieges", x.sieges(1, 1), -2);
        for (int i = 0; i < 3; i++) {
            Checks.due("again(" + i + ")", x.again(i), false);
        }
        Checks.rowDue("all of these", x);
        Checks.due("can", x.can(), 0);
        Checks.rowDue("can", x, 0);
        Checks.due("fits", x.fits(), 0);
        Checks.rowDue("fits", x, 0);
        Checks.due("sheet", x.sheet(2, 8, 5, 5), 0);
        Checks.due("forget", x.forget(), 0);
    }

    /** All around the one FIELD is outside, and a SHIP can be there. */
    private static void promise01ShipOnIt() {
        OverTheHill x = Checks.tell(new OverTheHill(), "5,00");
        Checks.due("a ship", x.ships(), 1);
        for (int heading = 0; heading < 4; heading++) {
            Checks.due("pull by " + heading, x.pull(0, heading), -2);
            Checks.due("drag by " + heading, x.drag(0, heading), -2);
        }
        Checks.due("no land", x.plank(0), -2);
        Checks.due("to itself", x.way(5, 0, 0), 0);
        Checks.due("never over", x.over(0), -2);
    }

    // ---- 2, 3: THE TEXT

    /** "Four signs come behind THE TEXT, of v the highest byte first: how many it has." */
    private static void promise02HighestByteFirst() {
        OverTheHill x = new OverTheHill();
        Checks.due("four", x.sign('1' << 24 | '2' << 16 | '3' << 8 | '4'), 4);
        Checks.due("four more", x.sign('5' << 24 | '6' << 16 | '/' << 8 | '7'), 8);
        Checks.due("four more again", x.sign('8' << 24 | '9' << 16 | '0' << 8 | '1'), 12);
        Checks.due("and more", x.sign('2' << 24), 16);
        Checks.due("cut", x.end(13), true);
        Checks.due("land", x.land(), 12);
        for (int field = 0; field < 12; field++) {
            Checks.due("height of " + field, x.field(field, 1), (field + 1) % 10);
        }
    }

    /** Bytes are signs without a sign of their own: 255 is 255, 0 is a sign too. */
    private static void promise02BytesOfAllKinds() {
        for (int v : new int[] {0, -1, Integer.MIN_VALUE, Integer.MAX_VALUE, '1' << 24 | 255, '1' << 24 | 128}) {
            OverTheHill x = new OverTheHill();
            Checks.due("sign(" + v + ")", x.sign(v), 4);
            Checks.due("land of it", x.land(), (v >>> 24) == '1' ? -2 : -1);
        }
        OverTheHill x = new OverTheHill();
        x.sign(1 << 8 | '1');
        Checks.due("bytes of 0 ahead of it", x.land(), -1);
    }

    /** "Refused: there would be more than 80." */
    private static void promise02MoreThan80() {
        OverTheHill x = new OverTheHill();
        for (int i = 1; i <= 20; i++) {
            Checks.due("sign " + i, x.sign('1' << 24), 4 * i);
        }
        Checks.due("to 84", x.sign(0), -1);
        Checks.due("it has 80", x.count(15), 80);
        for (int n = 79; n >= 77; n--) {
            x.end(n);
            Checks.due("to " + (n + 4), x.sign('2' << 24), -1);
            Checks.due("it has " + n, x.count(15), n);
        }
        x.end(76);
        Checks.due("to 80", x.sign('2' << 24), 80);
        x.end(77);
        x.end(1);
        Checks.due("the first sign stays", x.land(), 1);
        Checks.due("the first sign", x.field(0, 1), 1);
    }

    /** A text of 80 signs changes nothing but itself when more is refused. */
    private static void promise02RefusedChangesNothing() {
        OverTheHill x = Twin.underWay();
        for (int i = 0; i < 20; i++) {
            x.sign('~' << 24 | '~' << 16 | '~' << 8 | '~');
        }
        Checks.due("more", x.sign(-1), -1);
        Checks.due("to be undone", x.count(13), 6);
        Checks.rowDue("more", x, 0, 3, 1);
        Checks.due("a seventh field of the 80", x.land(), -7);
    }

    /** "THE TEXT has its first n signs alone: true" */
    private static void promise03FirstSigns() {
        OverTheHill x = Checks.tell(new OverTheHill(), "123456");
        for (int n = 6; n >= 1; n--) {
            Checks.due("end(" + n + ")", x.end(n), true);
            Checks.due("it has " + n, x.count(15), n);
        }
        Checks.due("land of one", x.land(), 1);
        Checks.due("its height", x.field(0, 1), 1);
    }

    /** n may be all of it, and none of it. */
    private static void promise03AllAndNone() {
        OverTheHill x = new OverTheHill();
        Checks.due("end(0) of none", x.end(0), true);
        Checks.tell(x, "12345");
        Checks.due("end(5) of five", x.end(5), true);
        Checks.due("five", x.count(15), 5);
        Checks.due("end(0) of five", x.end(0), true);
        Checks.due("none", x.count(15), 0);
        for (int i = 0; i < 20; i++) {
            x.sign(0);
        }
        Checks.due("end(80) of eighty", x.end(80), true);
        Checks.due("eighty", x.count(15), 80);
    }

    /** "false if it has not so many, or n is below 0" */
    private static void promise03NotSoMany() {
        OverTheHill x = new OverTheHill();
        Checks.due("end(1) of none", x.end(1), false);
        Checks.tell(x, "12345");
        for (int n : new int[] {6, 80, 81, Integer.MAX_VALUE, -1, Integer.MIN_VALUE}) {
            Checks.due("end(" + n + ") of five", x.end(n), false);
            Checks.due("five", x.count(15), 5);
        }
        Twin.refused("end(4) of three", y -> y.end(4) ? 1 : 0, 0);
        Twin.refused("end(-1) of three", y -> y.end(-1) ? 1 : 0, 0);
    }

    /** What was cut off does not come back with signs that come behind it. */
    private static void promise03CutSignsAreGone() {
        OverTheHill x = Checks.tell(new OverTheHill(), "12345678");
        x.end(2);
        x.sign('9' << 24);
        x.end(3);
        Checks.due("land", x.land(), 3);
        Checks.due("the third", x.field(2, 1), 9);
        x.sign('7' << 24);
        x.end(1);
        Checks.due("land, the text anew", x.land(), 1);
        Checks.due("its height", x.field(0, 1), 7);
    }

    // ---- 4: land

    private static void badLand(String text, int place) {
        Twin.refusedText("land", text, x -> x.land(), -1 - place);
    }

    /** "how many FIELDS": 1 at least, 36 at most. */
    private static void promise04HowManyFields() {
        OverTheHill x = new OverTheHill();
        for (String one : new String[] {"~", "*", "#", "0", "9"}) {
            Checks.due("land of " + one, Checks.tell(x, one).land(), 1);
        }
        Checks.due("the greatest", Checks.tell(x, EdgesOfTermsTests.SNAIL).land(), 36);
        Checks.due("one again", Checks.tell(x, "~").land(), 1);
        Checks.noSuch("fields of the greatest", () -> x.field(1, 0));
        Checks.due("a row", Checks.tell(x, "123456").land(), 6);
        Checks.due("a column", Checks.tell(x, "1/2/3/4/5/6").land(), 6);
    }

    /** "there are no PLANKS, no SHIPS" */
    private static void promise04NoPlanksNoShips() {
        OverTheHill x = Twin.underWay();
        Checks.due("the same again", Checks.tell(x, HILL).land(), 9);
        Checks.due("fields with planks", x.count(10), 0);
        Checks.due("planks at 4", x.field(4, 2), 0);
        Checks.due("planks at 5", x.field(5, 2), 0);
        Checks.due("ships", x.count(2), 0);
        Checks.due("over", x.count(11), 0);
        Checks.noSuch("ship 0", () -> x.ship(0, 0));
        for (int field = 0; field < 9; field++) {
            Checks.due("ships at " + field, x.field(field, 3), 0);
        }
    }

    /** "NIGHT, HOUR, USED, NOISE, ALARMS are 0" */
    private static void promise04AllAre0() {
        OverTheHill x = Twin.underWay();
        Checks.tell(x, HILL).land();
        for (int what : new int[] {4, 5, 6, 8, 9}) {
            Checks.due("count(" + what + ")", x.count(what), 0);
        }
    }

    /** "no traces, nothing can be undone, nothing is kept" */
    private static void promise04NothingIsKept() {
        OverTheHill x = Twin.underWay();
        Checks.tell(x, HILL).land();
        Checks.due("traces", x.count(12), 0);
        Checks.due("to be undone", x.count(13), 0);
        Checks.due("undo", x.undo(), -1);
        Checks.tell(x, "40,00;24,03;7,00").ships();
        for (int i = 0; i < 3; i++) {
            Checks.due("again(" + i + "), as many ships", x.again(i), false);
        }
        Checks.due("all fit", x.fits(), 7);
    }

    /** "THE TEXT is LAND anew": nothing of what was LAND, SEA, HARBOUR or ROCK before stays. */
    private static void promise04Anew() {
        OverTheHill x = Checks.landOf("~1*/~1*/#1*");
        Checks.tell(x, "~11/~11/~11").land();
        Checks.due("no harbour now", x.pass(), -2);
        Checks.tell(x, "*11/*11/*11").land();
        Checks.due("no sea now", x.pass(), -2);
        Checks.due("no way for planks", x.planks(5, 0), -2);
        Checks.tell(x, "~#*/~1*").land();
        Checks.due("two fields of one", x.planks(5, 2), -2);
        Checks.due("one field of one", x.planks(5, 1), 6);
        Checks.rowDue("one field of one", x, 1 << 4);
        Checks.due("rock now", x.way(5, 0, 1), -2);
        Checks.tell(x, "~9").land();
        Checks.tell(x, "1,00").ships();
        int[] pulls = {-2, 11, -2, -2};
        for (int heading = 0; heading < 4; heading++) {
            Checks.due("of two fields, heading " + heading, x.pull(0, heading), pulls[heading]);
        }
    }

    /** OXEN, EAR, THE RULE and the ROW are not told of: they stay. */
    private static void promise04WhatStays() {
        OverTheHill x = Twin.underWay();
        Checks.tell(x, HILL).land();
        Checks.due("oxen", x.count(3), 120);
        Checks.due("ear", x.count(7), 0);
        Checks.rowDue("land", x, 0, 3, 1);
        Checks.tell(x, "40,00").ships();
        Checks.due("pull by THE RULE", x.pull(0, 1), 46);
        Checks.due("it was not dragged", x.ship(0, 2), 0);
    }

    /** "-1 - p: the sign at p can't stand there" */
    private static void promise04SignsThatCantStand() {
        for (String sign : new String[] {"x", " ", ":", "-", "a", ",", ";", "" + (char) 0, "" + (char) 255, "" + (char) 128}) {
            badLand(sign, 0);
            badLand("1" + sign, 1);
            badLand("12/" + sign, 3);
            badLand("12/3" + sign, 4);
            badLand("12/34" + sign, 5);
        }
    }

    /** "(its end, if it ends too early: a ROW of none, ..)" */
    private static void promise04RowOfNone() {
        badLand("", 0);
        badLand("1/", 2);
        badLand("12/34/", 6);
        badLand("1/2/3/4/5/", 10);
        badLand("/", 0);
        badLand("/1", 0);
        badLand("1//1", 2);
        badLand("1/1//", 4);
    }

    /** "(.. or of fewer than the first one; ..)" */
    private static void promise04RowOfFewer() {
        badLand("12/3", 4);
        badLand("12/", 3);
        badLand("123456/12345", 12);
        badLand("12/3/45", 4);
        badLand("12/34/5", 7);
        badLand("12/34/5/67", 7);
    }

    /** "a seventh FIELD" */
    private static void promise04SeventhField() {
        badLand("1234567", 6);
        badLand("~~~~~~*", 6);
        badLand("123456x", 6);
        badLand("123456/1234567", 13);
    }

    /** "one more than the first ROW has" */
    private static void promise04OneMore() {
        badLand("1/23", 3);
        badLand("12/345", 5);
        badLand("12/34/567", 8);
        badLand("12345/123456", 11);
    }

    /** "a / behind the sixth ROW: at it" */
    private static void promise04SeventhRow() {
        badLand("1/1/1/1/1/1/", 11);
        badLand("1/1/1/1/1/1/1", 11);
        badLand("1/1/1/1/1/11", 11);
        badLand(EdgesOfTermsTests.SNAIL + "/", 41);
        badLand(EdgesOfTermsTests.SNAIL + "/111111", 41);
    }

    // ---- 5: ships

    private static void badShips(String text, int place) {
        Twin.refusedText("ships", text, x -> x.ships(), -1 - place);
    }

    /** "THE TEXT tells of SHIPS (an empty one: nothing): how many LINES." */
    private static void promise05EmptyText() {
        Twin.refusedText("ships", "", x -> x.ships(), 0);
        OverTheHill x = Checks.tell(new OverTheHill(), EIGHT);
        Checks.due("eight", x.ships(), 8);
        Checks.due("nothing, behind eight", Checks.tell(x, "").ships(), 0);
    }

    /** "how many LINES": those told now, with such as are there ahead of them. */
    private static void promise05HowManyLines() {
        OverTheHill x = Checks.landOf("~11*~", "5,00");
        x.drag(0, 1);
        Checks.due("three", Checks.tell(x, "1,04;2,00;3,04").ships(), 3);
        Checks.due("ships", x.count(2), 4);
        Checks.due("the first stays where it is", x.ship(0, 1), 1);
        Checks.due("it stays dragged", x.ship(0, 2), 1);
        Checks.due("its weight", x.ship(0, 0), 5);
        int[] fields = {4, 0, 4};
        for (int i = 0; i < 3; i++) {
            Checks.due("weight of " + (i + 1), x.ship(i + 1, 0), i + 1);
            Checks.due("field of " + (i + 1), x.ship(i + 1, 1), fields[i]);
            Checks.due("dragged: " + (i + 1), x.ship(i + 1, 2), 0);
        }
        Checks.due("used stays", x.count(4), 11);
    }

    /** "-1 - p: the sign at p can't stand there" */
    private static void promise05SignsThatCantStand() {
        badShips("x", 0);
        badShips(",00", 0);
        badShips(";", 0);
        badShips("-1,00", 0);
        badShips("1x,00", 1);
        badShips("1;00", 1);
        badShips("123,00", 2);
        badShips("12x00", 2);
        badShips("1,x0", 2);
        badShips("1,0x", 3);
        badShips("1,00x", 4);
        badShips("1,000", 4);
        badShips("1,00,", 4);
        badShips("1,00;x", 5);
        badShips("1,00;;", 5);
        badShips("1,00" + (char) 0, 4);
        badShips("1,0" + (char) 255, 3);
    }

    /** "(its end, if it ends too early; ..)" */
    private static void promise05EndsTooEarly() {
        badShips("1", 1);
        badShips("12", 2);
        badShips("1,", 2);
        badShips("1,0", 3);
        badShips("12,0", 4);
        badShips("1,00;", 5);
        badShips("1,00;1", 6);
        badShips("1,00;1,0", 8);
    }

    /** "WEIGHT 0: at its last digit" */
    private static void promise05WeightOf0() {
        badShips("0,00", 0);
        badShips("00,00", 1);
        badShips("0,99", 0);
        badShips("0x", 0);
        badShips("00", 1);
        badShips("1,00;0,00", 5);
        badShips("1,00;00,00", 6);
        OverTheHill x = new OverTheHill();
        Checks.due("09 and 10 are none", Checks.tell(x, "09,00;10,00").ships(), 2);
    }

    /** "a FIELD that is no SEA, .. : at its last digit" */
    private static void promise05NoSea() {
        badShips("1,01", 3);
        badShips("1,02", 3);
        badShips("1,06", 3);
        badShips("12,04", 4);
        badShips("1,01x", 3);
        badShips("1,00;1,02", 8);
    }

    /** "(.. or none such: at its last digit)" */
    private static void promise05NoSuchField() {
        badShips("1,09", 3);
        badShips("1,36", 3);
        badShips("1,64", 3);
        badShips("1,99", 3);
        badShips("12,99", 4);
        badShips("1,03;1,09", 8);
        OverTheHill x = Checks.landOf("######/######/######/######/######/#####~");
        Checks.due("the last field there can be", Checks.tell(x, "1,35").ships(), 1);
        Checks.due("one behind it", Checks.tell(x, "1,36").ships(), -4);
    }

    /** "the first sign of a LINE for which there is no room" */
    private static void promise05NoRoom() {
        badShips("1,00;1,00;1,00;1,00;1,00;1,00", 25);
        badShips("1,00;1,00;1,00;1,00;1,00;x", 25);
        badShips("1,00;1,00;1,00;1,00;1,00;0,00", 25);
        badShips("1,00;1,00;1,00;1,00;1,00;", 25);
        OverTheHill x = Checks.tell(new OverTheHill(), EIGHT);
        x.ships();
        Checks.due("a ninth alone", Checks.tell(x, "1,00").ships(), -1);
        Checks.due("a ninth, spoilt", Checks.tell(x, "x").ships(), -1);
        OverTheHill nine = Checks.tell(new OverTheHill(), EIGHT + ";9,00");
        Checks.due("nine", nine.ships(), -42);
        Checks.due("none of nine came", nine.count(2), 0);
    }

    /** "55, if it has more": eight LINES have 47 signs at most, so another answer always comes first. */
    private static void promise05MoreThan55Signs() {
        String ten = "11,00;".repeat(10);
        Checks.due("ten lines", Checks.tell(new OverTheHill(), ten).ships(), -49);
        Checks.due("eighty signs", Checks.tell(new OverTheHill(), "11,00;".repeat(13) + "1,").ships(), -49);
        Checks.due("eighty digits", Checks.tell(new OverTheHill(), "1".repeat(80)).ships(), -3);
        Checks.due("the longest that can be", Checks.tell(new OverTheHill(), ten.substring(0, 47)).ships(), 8);
    }

    /** "Nothing of it comes, if a LINE can't." */
    private static void promise05NothingOfItComes() {
        OverTheHill x = new OverTheHill();
        Checks.due("the last of three can't", Checks.tell(x, "1,00;2,00;3,01").ships(), -14);
        Checks.due("ships", x.count(2), 0);
        Checks.due("ships at sea", x.field(0, 3), 0);
        Checks.due("ships that fit", x.fits(), 0);
        Checks.due("ships that can", x.can(), 0);
        Checks.due("weights together", x.sheet(2, 8, 5, 5), 0);
        Checks.due("one that can", Checks.tell(x, "9,00").ships(), 1);
        Checks.due("its weight", x.ship(0, 0), 9);
        Checks.due("of all of them", x.count(2), 1);
    }

    // ---- 6: THE RULE

    private static void badRule(String text, int place) {
        Twin.refusedText("rule", text, x -> x.rule(), -1 - place);
    }

    /** "THE TEXT is THE RULE (an empty one: none): 0." */
    private static void promise06EmptyText() {
        OverTheHill x = Checks.ruled(Checks.landOf("~2*", "10,00"), "5");
        Checks.due("by a rule", x.pull(0, 1), 5);
        Checks.due("none", Checks.tell(x, "").rule(), 0);
        Checks.due("by none", x.pull(0, 1), 31);
        Checks.due("none again", x.rule(), 0);
        Checks.due("by none still", x.pull(0, 1), 31);
    }

    /** "-1 - p: the sign at p can't stand there" */
    private static void promise06SignsThatCantStand() {
        badRule("x", 0);
        badRule("W", 0);
        badRule(" w", 0);
        badRule("+1", 0);
        badRule("*1", 0);
        badRule("<1", 0);
        badRule(")", 0);
        badRule("w ", 1);
        badRule("ww", 1);
        badRule("w1", 1);
        badRule("1w", 1);
        badRule("1(2)", 1);
        badRule("(1)2", 3);
        badRule("1)", 1);
        badRule("1+*2", 2);
        badRule("1-+2", 2);
        badRule("1234", 3);
        badRule("1<2<3", 3);
        badRule("(((((1)))))", 4);
        badRule("w" + (char) 0, 1);
        badRule("" + (char) 255, 0);
    }

    /** "(its end, if it ends too early; ..)" */
    private static void promise06EndsTooEarly() {
        badRule("-", 1);
        badRule("(", 1);
        badRule("(1", 2);
        badRule("((1)", 4);
        badRule("1+", 2);
        badRule("w*", 2);
        badRule("w<", 2);
        badRule("w<-", 3);
        badRule("1+".repeat(20), 40);
        badRule("-".repeat(40), 40);
    }

    /** "40, if it has more and the first 40 could go on or end" */
    private static void promise06MoreThan40Signs() {
        String forty = "1+".repeat(19) + "11";
        badRule(forty + "x", 40);
        badRule(forty + "+", 40);
        badRule(forty + "1", 40);
        badRule("1+".repeat(20) + "1", 40);
        badRule("1+".repeat(19) + "1++", 40);
        badRule("1+".repeat(40), 40);
        badRule("1+".repeat(18) + "(111)", 40);
        badRule("1+".repeat(18) + "(11+)", 40);
    }

    /** ".. could go on or end": one of the first 40 that can't stand comes first. */
    private static void promise06Among40Signs() {
        badRule("1+".repeat(19) + "1x1", 39);
        badRule("1+".repeat(19) + "++1", 38);
        badRule("x" + "1".repeat(79), 0);
        badRule("1+".repeat(18) + "1111+1", 39);
        badRule("1<2+".repeat(11), 5);
    }

    // ---- 7, 8: fields and ships

    /** "0 LAND, 1 SEA, 2 HARBOUR, 3 ROCK, 1: HEIGHT (0 of ROCK)" */
    private static void promise07KindsAndHeights() {
        OverTheHill x = Checks.landOf("9~*#");
        int[] heights = {9, 0, 0, 0};
        for (int field = 0; field < 4; field++) {
            Checks.due("kind of " + field, x.field(field, 0), field);
            Checks.due("height of " + field, x.field(field, 1), heights[field]);
        }
        Checks.tell(x, "#999").land();
        Checks.due("rock where land was 9 high", x.field(0, 1), 0);
        Checks.tell(x, "999#").land();
        Checks.due("rock where land was 9 high, at the end", x.field(3, 1), 0);
    }

    /** "2: 1 with PLANKS, 3: SHIPS there (bits)" */
    private static void promise07PlanksAndShips() {
        OverTheHill x = Checks.tell(Checks.landOf("~1*"), EIGHT);
        x.ships();
        Checks.due("none", x.field(1, 2), 0);
        x.plank(1);
        Checks.due("some", x.field(1, 2), 1);
        Checks.due("all ships", x.field(0, 3), 255);
        x.drag(6, 1);
        Checks.due("all but one", x.field(0, 3), 255 - 64);
        Checks.due("one", x.field(1, 3), 64);
        Checks.due("no ships", x.field(2, 3), 0);
        Checks.due("no planks at sea", x.field(0, 2), 0);
    }

    /** "NoSuchElementException: none such, another what." */
    private static void promise07NoSuch() {
        OverTheHill x = Checks.landOf(HILL);
        for (int field : new int[] {-1, 9, 35, 36, 64, Integer.MIN_VALUE, Integer.MAX_VALUE}) {
            for (int what = -1; what <= 4; what++) {
                int asked = what;
                Checks.noSuch("field(" + field + ", " + what + ")", () -> x.field(field, asked));
            }
        }
        for (int what : new int[] {-1, 4, Integer.MIN_VALUE, Integer.MAX_VALUE}) {
            Checks.noSuch("field(8, " + what + ")", () -> x.field(8, what));
        }
        OverTheHill all = Checks.landOf(EdgesOfTermsTests.SNAIL);
        Checks.due("field 35", all.field(35, 1), 9);
        Checks.noSuch("field 36 of 36", () -> all.field(36, 0));
    }

    /** "what 0: WEIGHT, 1: FIELD, 2: 1 if it was dragged in this HOUR, 3: 1 if it is in the HARBOUR." */
    private static void promise08Ship() {
        OverTheHill x = Checks.landOf("~*", "99,00;1,00");
        int[][] due = {{99, 0, 0, 0}, {99, 1, 1, 1}, {99, 1, 0, 1}, {99, 0, 1, 0}};
        for (int i = 0; i < due.length; i++) {
            for (int what = 0; what < 4; what++) {
                Checks.due("ship(0, " + what + ") at " + i, x.ship(0, what), due[i][what]);
            }
            if (i == 1) {
                x.hours(1);
            } else {
                x.drag(0, i == 0 ? 1 : 3);
            }
        }
        Checks.due("the other was not dragged", x.ship(1, 2), 0);
    }

    /** "NoSuchElementException: likewise." */
    private static void promise08NoSuch() {
        OverTheHill x = Checks.landOf("~*", "99,00;1,00");
        for (int ship : new int[] {-1, 2, 7, 8, 32, Integer.MIN_VALUE, Integer.MAX_VALUE}) {
            for (int what = -1; what <= 4; what++) {
                int asked = what;
                Checks.noSuch("ship(" + ship + ", " + what + ")", () -> x.ship(ship, asked));
            }
        }
        for (int what : new int[] {-1, 4, Integer.MIN_VALUE, Integer.MAX_VALUE}) {
            Checks.noSuch("ship(1, " + what + ")", () -> x.ship(1, what));
        }
        OverTheHill eight = Checks.tell(new OverTheHill(), EIGHT);
        eight.ships();
        Checks.due("ship 7", eight.ship(7, 0), 88);
        Checks.noSuch("ship 8 of 8", () -> eight.ship(8, 0));
    }

    // ---- 9, 10, 11: pulls, oxen, sheets

    /** "PULL of a SHIP by a HEADING from where it is, now." */
    private static void promise09Now() {
        OverTheHill x = Checks.landOf("~1*", "10,00");
        Checks.due("from sea", x.pull(0, 1), 21);
        x.plank(1);
        Checks.due("planks now", x.pull(0, 1), 7);
        x.drag(0, 1);
        Checks.due("from land, dragged already", x.pull(0, 1), 11);
        x.set(0, 7);
        Checks.due("more than oxen", x.pull(0, 3), 11);
        x.hours(30);
        Checks.due("in rain", x.pull(0, 1), 16);
        Checks.due("used", x.count(4), 0);
    }

    /** "-2: it can't be dragged so (ROCK, ..)" */
    private static void promise09Rock() {
        OverTheHill x = Checks.landOf("~#/##", "1,00");
        Checks.due("right", x.pull(0, 1), -2);
        Checks.due("down", x.pull(0, 2), -2);
    }

    /** "(.. outside, ..)" */
    private static void promise09Outside() {
        OverTheHill x = Checks.landOf("~~/~~", "1,00;1,01;1,02;1,03");
        int[][] due = {{-2, 2, 2, -2}, {-2, -2, 2, 2}, {2, 2, -2, -2}, {2, -2, -2, 2}};
        for (int ship = 0; ship < 4; ship++) {
            for (int heading = 0; heading < 4; heading++) {
                Checks.due("pull(" + ship + ", " + heading + ")", x.pull(ship, heading), due[ship][heading]);
            }
        }
    }

    /** "(.. a SHIP on LAND there)" */
    private static void promise09ShipOnLandThere() {
        OverTheHill x = Checks.landOf("~1*~", "1,00;1,00;1,03");
        x.drag(0, 1);
        Checks.due("on land", x.pull(1, 1), -2);
        x.hours(1);
        x.drag(0, 1);
        Checks.due("gone from land", x.pull(1, 1), 3);
        Checks.due("in the harbour", x.pull(2, 3), 2);
        Checks.due("at sea", x.pull(0, 1), 2);
    }

    /** "NONE: none such." */
    private static void promise09NoneSuch() {
        Twin.refused("pull of ship -1", x -> x.pull(-1, 0), -1);
        Twin.refused("pull of ship 3", x -> x.pull(3, 0), -1);
        Twin.refused("pull by heading -1", x -> x.pull(0, -1), -1);
        Twin.refused("pull by heading 4", x -> x.pull(0, 4), -1);
        Twin.refused("pull of the least", x -> x.pull(Integer.MIN_VALUE, Integer.MIN_VALUE), -1);
        Twin.refused("pull of the most", x -> x.pull(Integer.MAX_VALUE, Integer.MAX_VALUE), -1);
    }

    /** "OXEN (what 0), EAR (1) becomes v (0 .. 999): what it was." */
    private static void promise10From0To999() {
        OverTheHill x = new OverTheHill();
        for (int what = 0; what <= 1; what++) {
            int count = what == 0 ? 3 : 7;
            x.set(what, 500);
            Checks.due("set(" + what + ", 0)", x.set(what, 0), 500);
            Checks.due("count(" + count + ")", x.count(count), 0);
            Checks.due("set(" + what + ", 999)", x.set(what, 999), 0);
            Checks.due("count(" + count + ") then", x.count(count), 999);
            Checks.due("set(" + what + ", 999) again", x.set(what, 999), 999);
        }
    }

    /** "Refused: others" */
    private static void promise10Others() {
        for (int what = 0; what <= 1; what++) {
            int asked = what;
            for (int v : new int[] {-1, 1000, Integer.MIN_VALUE, Integer.MAX_VALUE}) {
                Twin.refused("set(" + what + ", " + v + ")", x -> x.set(asked, v), -1);
            }
        }
        for (int what : new int[] {-1, 2, Integer.MIN_VALUE, Integer.MAX_VALUE}) {
            Twin.refused("set(" + what + ", 100)", x -> x.set(what, 100), -1);
        }
    }

    /** "Refused: .. OXEN below USED." */
    private static void promise10BelowUsed() {
        Twin.refused("oxen 71 of which 72 are used", x -> x.set(0, 71), -1);
        Twin.refused("oxen 0 of which 72 are used", x -> x.set(0, 0), -1);
        OverTheHill x = Twin.underWay();
        Checks.due("oxen as used", x.set(0, 72), 120);
        Checks.due("oxen", x.count(3), 72);
        Checks.due("ear below used", x.set(1, 71), 0);
        x.hours(1);
        Checks.due("none is used then", x.set(0, 0), 72);
    }

    private static OverTheHill three() {
        return Checks.landOf("~", "11,00;22,00;33,00");
    }

    private static void weights(String call, OverTheHill x, int... due) {
        for (int ship = 0; ship < due.length; ship++) {
            Checks.due(call + ": weight of " + ship, x.ship(ship, 0), due[ship]);
        }
    }

    /** "of n entries f, f + step, .." */
    private static void promise11Entries() {
        for (int kind = 0; kind < 3; kind++) {
            OverTheHill x = three();
            Checks.due("up", x.sheet(kind, 3, 5, 10), 45);
            weights("up", x, 5, 15, 25);
            Checks.due("down", x.sheet(kind, 3, 50, -20), 90);
            weights("down", x, 50, 30, 10);
            Checks.due("all alike", x.sheet(kind, 3, 7, 0), 21);
            weights("all alike", x, 7, 7, 7);
        }
    }

    /** "of bytes, shorts the lowest bits, with their sign" */
    private static void promise11LowestBits() {
        OverTheHill x = three();
        Checks.due("bytes", x.sheet(0, 3, 257, 126), 1 + 99 + 1);
        weights("bytes 1, 127, -3", x, 1, 99, 1);
        Checks.due("bytes of ints", x.sheet(0, 3, 65536 + 20, 256), 60);
        weights("bytes of ints", x, 20, 20, 20);
        Checks.due("byte 128 is -128", x.sheet(0, 1, 128, 0), 3);
        Checks.due("byte -129 is 127", x.sheet(0, 1, -129, 0), 101);
        Checks.due("shorts", x.sheet(1, 3, 65536 + 20, 32768), 20 + 1 + 20);
        weights("shorts 20, -32748, 20", x, 20, 1, 20);
        Checks.due("short 32768 is -32768", x.sheet(1, 1, 32768, 0), 3);
        Checks.due("short -32769 is 32767", x.sheet(1, 1, -32769, 0), 101);
        Checks.due("short 257 is 257", x.sheet(1, 1, 257, 0), 101);
        Checks.due("int 65556 is 65556", x.sheet(2, 1, 65556, 0), 101);
    }

    /** f + step, as ints: behind the greatest one comes the least. */
    private static void promise11EntriesWrap() {
        OverTheHill x = three();
        Checks.due("ints", x.sheet(2, 3, Integer.MAX_VALUE, 1), 99 + 1 + 1);
        weights("ints", x, 99, 1, 1);
        Checks.due("ints that come around", x.sheet(2, 3, 40, Integer.MIN_VALUE), 40 + 1 + 40);
        weights("ints that come around", x, 40, 1, 40);
        Checks.due("down around", x.sheet(2, 3, Integer.MIN_VALUE, -1), 1 + 99 + 99);
    }

    /** "put to 1 .. 99" */
    private static void promise11PutTo1To99() {
        OverTheHill x = three();
        Checks.due("0, 1, 2", x.sheet(2, 3, 0, 1), 1 + 1 + 2);
        weights("0, 1, 2", x, 1, 1, 2);
        Checks.due("98, 99, 100", x.sheet(2, 3, 98, 1), 98 + 99 + 99);
        weights("98, 99, 100", x, 98, 99, 99);
        Checks.due("below 0", x.sheet(2, 3, -1, -1), 3);
    }

    /** "those behind it have 1" */
    private static void promise11ShipsBehindIt() {
        OverTheHill x = three();
        Checks.due("one entry", x.sheet(2, 1, 50, 5), 52);
        weights("one entry", x, 50, 1, 1);
        x.sheet(2, 3, 50, 5);
        Checks.due("no entries", x.sheet(2, 0, 50, 5), 3);
        weights("no entries", x, 1, 1, 1);
    }

    /** "(entries beyond the SHIPS are left aside)" */
    private static void promise11EntriesBeyond() {
        OverTheHill x = three();
        Checks.due("eight entries", x.sheet(2, 8, 10, 1), 33);
        Checks.tell(x, "77,00").ships();
        Checks.due("a ship that comes then", x.ship(3, 0), 77);
        Checks.due("no ships", new OverTheHill().sheet(2, 8, 10, 1), 0);
        OverTheHill eight = Checks.tell(new OverTheHill(), EIGHT);
        eight.ships();
        Checks.due("eight entries of eight ships", eight.sheet(2, 8, 92, 1), 92 + 93 + 94 + 95 + 96 + 97 + 98 + 99);
    }

    /** "-2: n below 0 (of kinds 0 .. 2; nothing changes)" */
    private static void promise11Below0() {
        for (int kind = 0; kind < 3; kind++) {
            int asked = kind;
            Twin.refused("sheet(" + kind + ", -1, ..)", x -> x.sheet(asked, -1, 5, 5), -2);
            Twin.refused("sheet(" + kind + ", least, ..)", x -> x.sheet(asked, Integer.MIN_VALUE, 5, 5), -2);
        }
    }

    /** "-3: missing (all 1)" */
    private static void promise11Missing() {
        for (int n : new int[] {Integer.MIN_VALUE, -1, 0, 1, 8}) {
            OverTheHill x = three();
            Checks.due("missing, n " + n, x.sheet(3, n, 5, 5), -3);
            weights("missing, n " + n, x, 1, 1, 1);
        }
        Checks.due("missing, no ships", new OverTheHill().sheet(3, 0, 0, 0), -3);
    }

    /** "NONE: another kind, n above 8 (these first)." */
    private static void promise11NoneFirst() {
        for (int kind : new int[] {-1, 4, Integer.MIN_VALUE, Integer.MAX_VALUE}) {
            for (int n : new int[] {-1, 0, 3, 9}) {
                Twin.refused("sheet(" + kind + ", " + n + ", ..)", x -> x.sheet(kind, n, 5, 5), -1);
            }
        }
        for (int kind = 0; kind <= 3; kind++) {
            int asked = kind;
            Twin.refused("sheet(" + kind + ", 9, ..)", x -> x.sheet(asked, 9, 5, 5), -1);
            Twin.refused("sheet(" + kind + ", most, ..)", x -> x.sheet(asked, Integer.MAX_VALUE, 5, 5), -1);
        }
    }

    /** "the sum of WEIGHTS": of all SHIPS, not of those in the sheet alone. */
    private static void promise11SumOfAll() {
        OverTheHill x = three();
        Checks.due("of two entries", x.sheet(0, 2, 30, 1), 62);
    }
}
