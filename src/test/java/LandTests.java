/** Promises 1 to 8: a new object, THE TEXT, LAND, SHIPS, THE RULE as it is told, FIELDS. */
public final class LandTests {
    private static final String HILL = "~2*/~11/#3*";

    public static void main(String[] args) {
        promise1NewObject();
        promise2Sign();
        promise3End();
        promise4Land();
        promise4LandAnew();
        promise4LandRefused();
        promise5Ships();
        promise5ShipsRefused();
        promise5NoRoom();
        promise6Rule();
        promise6RuleRefused();
        promise6Precedence();
        promise7Field();
        promise8Ship();
        Checks.finish("LandTests");
    }

    private static void promise1NewObject() {
        OverTheHill x = new OverTheHill();
        int[] counts = {1, 1, 0, 100, 0, 0, 0, 50, 0, 0, 0, 0, 0, 0, 0, 0};
        for (int what = 0; what < counts.length; what++) {
            Checks.due("new: count(" + what + ")", x.count(what), counts[what]);
        }
        Checks.due("new: field(0, 0)", x.field(0, 0), 1);
        Checks.due("new: field(0, 1)", x.field(0, 1), 0);
        Checks.noSuch("new: field(1, 0)", () -> x.field(1, 0));
        Checks.noSuch("new: ship(0, 0)", () -> x.ship(0, 0));
        Checks.rowDue("new", x);
        Checks.due("new: undo()", x.undo(), -1);
        Checks.due("new: again(0)", x.again(0), false);
        Checks.due("new: ships on the one field", Checks.tell(x, "5,00").ships(), 1);
        for (int heading = 0; heading < 4; heading++) {
            Checks.due("new: pull outside", x.pull(0, heading), -2);
        }
    }

    private static void promise2Sign() {
        OverTheHill x = new OverTheHill();
        Checks.due("sign(0)", x.sign(0), 4);
        x.end(0);
        Checks.due("sign, the highest byte first", x.sign('1' << 24 | '2' << 16 | '/' << 8 | '3'), 4);
        Checks.due("sign, more of it", x.sign('4' << 24), 8);
        x.end(5);
        Checks.due("land by signs", x.land(), 4);
        Checks.due("land by signs: columns", x.count(1), 2);
        for (int i = 0; i < 4; i++) {
            Checks.due("land by signs: height " + i, x.field(i, 1), i + 1);
        }
        for (int i = 1; i <= 20; i++) {
            Checks.due("sign " + i, x.sign(-1), 4 * i);
        }
        Checks.due("sign beyond 80", x.sign(1), -1);
        Checks.due("signs beyond 80", x.count(15), 80);
        x.end(77);
        Checks.due("sign to 81", x.sign(1), -1);
        x.end(76);
        Checks.due("sign to 80", x.sign(1), 80);
    }

    private static void promise3End() {
        OverTheHill x = new OverTheHill();
        Checks.due("end(0) of none", x.end(0), true);
        Checks.due("end(1) of none", x.end(1), false);
        Checks.tell(x, "12345");
        Checks.due("end(-1)", x.end(-1), false);
        Checks.due("end(6)", x.end(6), false);
        Checks.due("end, the greatest", x.end(Integer.MAX_VALUE), false);
        Checks.due("end refused: signs", x.count(15), 5);
        Checks.due("end(5)", x.end(5), true);
        Checks.due("end(2)", x.end(2), true);
        Checks.due("end(2): signs", x.count(15), 2);
        Checks.due("land of the first two", x.land(), 2);
        Checks.due("land of the first two: height", x.field(1, 1), 2);
    }

    private static void promise4Land() {
        OverTheHill x = new OverTheHill();
        Checks.due("land of 3 rows", Checks.tell(x, HILL).land(), 9);
        Checks.due("land empties the text", x.count(15), 0);
        Checks.due("rows", x.count(0), 3);
        Checks.due("columns", x.count(1), 3);
        int[] kinds = {1, 0, 2, 1, 0, 0, 3, 0, 2};
        int[] heights = {0, 2, 0, 0, 1, 1, 0, 3, 0};
        for (int i = 0; i < 9; i++) {
            Checks.due("kind of " + i, x.field(i, 0), kinds[i]);
            Checks.due("height of " + i, x.field(i, 1), heights[i]);
        }
        Checks.due("the greatest land", Checks.tell(x, "012345/678901/~~~~~~/******/######/999999").land(), 36);
        Checks.due("the greatest land: last height", x.field(35, 1), 9);
        Checks.due("one row", Checks.tell(x, "~12345").land(), 6);
        Checks.due("one row: rows", x.count(0), 1);
        Checks.due("one column", Checks.tell(x, "~/1/2/3/4/*").land(), 6);
        Checks.due("one column: columns", x.count(1), 1);
        Checks.due("one column: rows", x.count(0), 6);
    }

    private static void promise4LandAnew() {
        OverTheHill x = Checks.ruled(Checks.landOf(HILL, "10,00;4,03"), "w");
        x.set(0, 77);
        x.set(1, 0);
        x.plank(4);
        x.drag(0, 1);
        x.hours(12);
        x.drag(1, 1);
        x.trace(5, 1);
        x.keep(0);
        Checks.due("ahead of it: alarms", x.count(9), 1);
        Checks.tell(x, "~1*/~~~").land();
        int[] counts = {2, 3, 0, 77, 0, 0, 0, 0, 0, 0, 0, 0, 0, 0, 1, 0};
        for (int what = 0; what < counts.length; what++) {
            Checks.due("land anew: count(" + what + ")", x.count(what), counts[what]);
        }
        Checks.due("land anew: planks", x.field(4, 2), 0);
        Checks.due("land anew: undo()", x.undo(), -1);
        Checks.due("land anew: again(0)", x.again(0), false);
        Checks.tell(x, "9,00").ships();
        Checks.due("land anew: not dragged", x.ship(0, 2), 0);
        x.set(1, 50);
        x.drag(0, 1);
        Checks.tell(x, "~1*/~~~").land();
        Checks.tell(x, "9,00").ships();
        Checks.due("land anew behind a drag: not dragged", x.ship(0, 2), 0);
        Checks.due("land anew behind a drag: used", x.count(4), 0);
        x.set(0, 999);
        Checks.ruled(x, "99");
        x.drag(0, 1);
        Checks.tell(x, "~1*/~~~").land();
        Checks.due("land anew behind a loud drag: noise", x.count(8), 0);
        Checks.tell(x, "9,00").ships();
        Checks.ruled(x, "w");
        Checks.due("land anew: THE RULE stays", x.pull(0, 1), 9);
        x.keep(1);
        Checks.tell(x, HILL).land();
        Checks.due("land anew without ships: again(1)", x.again(1), false);
        for (int i = 0; i < 3; i++) {
            x.keep(i);
        }
        Checks.tell(x, HILL).land();
        for (int i = 0; i < 3; i++) {
            Checks.due("land anew, as many ships: again(" + i + ")", x.again(i), false);
        }
    }

    private static void promise4LandRefused() {
        badLand("", 0);
        badLand("x", 0);
        badLand("/1", 0);
        badLand("1/", 2);
        badLand("1//1", 2);
        badLand("12/3", 4);
        badLand("12/3/45", 4);
        badLand("12/3x", 4);
        badLand("12/345", 5);
        badLand("1234567", 6);
        badLand("123456x", 6);
        badLand("1/1/1/1/1/1/", 11);
        badLand("1/1/1/1/1/1/1", 11);
        badLand("1/1/1/1/1/1x", 11);
        badLand("1 ", 1);
        badLand("1" + (char) 0, 1);
        badLand("1" + (char) 255, 1);
        badLand("012345/678901/~~~~~~/******/######/9999999", 41);
        badLand("012345/678901/~~~~~~/******/######/999999/", 41);
        badLand("012345/678901/~~~~~~/******/######/99999", 40);
    }

    private static void badLand(String text, int place) {
        OverTheHill x = Checks.landOf(HILL, "7,03");
        x.plank(4);
        x.pass();
        Checks.due("land of " + text, Checks.tell(x, text).land(), -1 - place);
        Checks.due("land of " + text + ": signs", x.count(15), 0);
        Checks.due("land of " + text + ": ships", x.count(2), 1);
        Checks.due("land of " + text + ": planks", x.count(10), 1);
        Checks.due("land of " + text + ": to be undone", x.count(13), 1);
        Checks.due("land of " + text + ": field 7", x.field(7, 1), 3);
        Checks.rowDue("land of " + text, x, 317);
    }

    private static void promise5Ships() {
        OverTheHill x = Checks.landOf(HILL);
        Checks.due("two lines", Checks.tell(x, "10,00;4,03").ships(), 2);
        Checks.due("two lines: signs", x.count(15), 0);
        Checks.due("two lines: ships", x.count(2), 2);
        x.drag(0, 1);
        Checks.due("an empty text", Checks.tell(x, "").ships(), 0);
        Checks.due("an empty text: to be undone", x.count(13), 1);
        Checks.due("one line more", Checks.tell(x, "05,03").ships(), 1);
        Checks.due("one line more: to be undone", x.count(13), 0);
        Checks.due("one line more: where the first was dragged", x.ship(0, 1), 1);
        Checks.due("one line more: it was dragged", x.ship(0, 2), 1);
        Checks.due("one line more: weight", x.ship(2, 0), 5);
        Checks.due("one line more: field", x.ship(2, 1), 3);
        Checks.due("one line more: used", x.count(4), 31);
        Checks.due("the heaviest", Checks.tell(x, "99,00").ships(), 1);
        Checks.due("the heaviest: weight", x.ship(3, 0), 99);
        OverTheHill far = Checks.landOf("111111/111111/111111/111111/111111/11111~");
        Checks.due("field 35", Checks.tell(far, "1,35").ships(), 1);
        Checks.due("field 35: it", far.ship(0, 1), 35);
    }

    private static void promise5ShipsRefused() {
        badShips("x", 0);
        badShips("1", 1);
        badShips("12", 2);
        badShips("123,00", 2);
        badShips("1;00", 1);
        badShips("0,00", 0);
        badShips("0", 0);
        badShips("00,00", 1);
        badShips("1,", 2);
        badShips("1,0", 3);
        badShips("1,x", 2);
        badShips("1,0x", 3);
        badShips("1,01", 3);
        badShips("1,02", 3);
        badShips("1,06", 3);
        badShips("1,09", 3);
        badShips("1,99", 3);
        badShips("1,000", 4);
        badShips("1,00,", 4);
        badShips("1,00;", 5);
        badShips(";1,00", 0);
        badShips("1,00;1,00;2,04", 13);
        badShips("1,00;0,00", 5);
        badShips("10,00;10,00;10,00;10,00;10,00;10,00;10,00;1", 42);
        badShips("10,00;10,00;10,00;10,00;10,00;10,00;10,00;10,00;10,00;10,00", 42);
    }

    private static void badShips(String text, int place) {
        OverTheHill x = Checks.landOf(HILL, "7,03");
        x.plank(4);
        x.keep(1);
        Checks.due("ships of " + text, Checks.tell(x, text).ships(), -1 - place);
        Checks.due("ships of " + text + ": signs", x.count(15), 0);
        Checks.due("ships of " + text + ": ships", x.count(2), 1);
        Checks.due("ships of " + text + ": weight", x.ship(0, 0), 7);
        Checks.due("ships of " + text + ": field 0", x.field(0, 3), 0);
        Checks.due("ships of " + text + ": to be undone", x.count(13), 1);
        Checks.due("ships of " + text + ": again(1)", x.again(1), true);
    }

    private static void promise5NoRoom() {
        OverTheHill x = Checks.landOf("~");
        Checks.due("eight", Checks.tell(x, "1,00;2,00;3,00;4,00;5,00;6,00;7,00;88,00").ships(), 8);
        Checks.due("eight on one field", x.field(0, 3), 255);
        Checks.due("a ninth", Checks.tell(x, "1,00").ships(), -1);
        Checks.due("a ninth, spoilt", Checks.tell(x, "x").ships(), -1);
        Checks.due("none", Checks.tell(x, "").ships(), 0);
        x = Checks.landOf("~");
        Checks.due("nine", Checks.tell(x, "1,00;2,00;3,00;4,00;5,00;6,00;7,00;88,00;9,00").ships(), -42);
        Checks.due("eight and a ;", Checks.tell(x, "1,00;2,00;3,00;4,00;5,00;6,00;7,00;88,00;").ships(), -42);
        Checks.due("nine: none came", x.count(2), 0);
    }

    private static void promise6Rule() {
        OverTheHill x = Checks.landOf(HILL, "10,00");
        Checks.due("no rule: uphill", x.pull(0, 1), 31);
        Checks.due("a rule", Checks.tell(x, "w+u*100").rule(), 0);
        Checks.due("a rule: signs", x.count(15), 0);
        Checks.due("a rule: uphill", x.pull(0, 1), 210);
        Checks.due("a spoilt rule", Checks.tell(x, "w+").rule(), -3);
        Checks.due("a spoilt rule: signs", x.count(15), 0);
        Checks.due("a spoilt rule: the other stays", x.pull(0, 1), 210);
        Checks.due("an empty one", Checks.tell(x, "").rule(), 0);
        Checks.due("an empty one: uphill", x.pull(0, 1), 31);
        Checks.due("an empty one: on the level", x.pull(0, 2), 11);
        x.plank(1);
        Checks.due("an empty one: uphill on planks", x.pull(0, 1), 11);
    }

    private static void promise6RuleRefused() {
        badRule("z", 0);
        badRule("W", 0);
        badRule(" w", 0);
        badRule("w ", 1);
        badRule("ww", 1);
        badRule("w1", 1);
        badRule("1w", 1);
        badRule("+1", 0);
        badRule("*1", 0);
        badRule("-", 1);
        badRule("1+", 2);
        badRule("1+*2", 2);
        badRule("1234", 3);
        badRule("(1", 2);
        badRule("(", 1);
        badRule("()", 1);
        badRule("1)", 1);
        badRule(")", 0);
        badRule("(1)(2)", 3);
        badRule("(1)2", 3);
        badRule("((((1))))", -1);
        badRule("(((((1)))))", 4);
        badRule("((((1))))+(1)", -1);
        badRule("1<2<3", 3);
        badRule("1<2=3", 3);
        badRule("1<2+3>4", 5);
        badRule("(1<2)<3", -1);
        badRule("1<(2<3)", -1);
        badRule("1<(2<3<4)", 6);
        badRule("1<", 2);
        badRule("<1", 0);
        badRule("1+2<3-4", -1);
        badRule("---1", -1);
        badRule("1---1", -1);
        badRule("1-+1", 2);
        badRule("2*-3", -1);
        badRule("999", -1);
        badRule("007", -1);
        badRule("w" + (char) 0, 1);
        badRule("w" + (char) 0xf7, 1);
        String forty = "1+1+1+1+1+1+1+1+1+1+1+1+1+1+1+1+1+1+1+11";
        badRule(forty, -1);
        badRule(forty + "1", 40);
        badRule(forty + "x", 40);
        badRule(forty + "+1", 40);
        badRule(forty + "+x+x+x+x", 40);
        badRule(forty.substring(0, 39) + "+1", 40);
        badRule(forty.substring(0, 39) + "x1", 39);
        badRule("-".repeat(39) + "1", -1);
        badRule("-".repeat(40) + "1", 40);
        badRule("-".repeat(80), 40);
        badRule("-".repeat(40), 40);
        badRule("-".repeat(20), 20);
    }

    private static void badRule(String text, int place) {
        OverTheHill x = Checks.ruled(Checks.landOf(HILL, "10,00"), "w+5");
        Checks.due("rule of " + text, Checks.tell(x, text).rule(), place < 0 ? 0 : -1 - place);
        Checks.due("rule of " + text + ": signs", x.count(15), 0);
        if (place >= 0) {
            Checks.due("rule of " + text + ": the other stays", x.pull(0, 1), 15);
        }
    }

    private static void promise6Precedence() {
        worth("1+2*3", 7);
        worth("(1+2)*3", 9);
        worth("9-4-3", 2);
        worth("100/7/2", 7);
        worth("7/2*2", 6);
        worth("2*7/2", 7);
        worth("0-7/2+9", 6);
        worth("-7/2+9", 6);
        worth("-(7/2)+9", 6);
        worth("5/0", 0);
        worth("5/0+3", 3);
        worth("5/(1-1)*4+2", 2);
        worth("1<2", 1);
        worth("2<1", 0);
        worth("2>1", 1);
        worth("2>2", 0);
        worth("1+1=2", 1);
        worth("1=2", 0);
        worth("(3>2)*50+(2>3)*7", 50);
        worth("9-(1<2)", 8);
        worth("--5", 5);
        worth("---5+9", 4);
        worth("3--2", 5);
        worth("3*-2+10", 4);
        worth("-3*-2", 6);
        worth("0-5", 0);
        worth("999+1", 999);
        worth("999", 999);
        // As ints: 999^3 is 997002999, and thrice that, as 999^4, is below 0.
        worth("999*999*999", 999);
        worth("999*999*999*999", 0);
        worth("-(999*999*999*999)", 999);
        worth("999*999*999*3-999*999*999*3+4", 4);
        worth("999*999*999*3<0", 1);
        worth("w*100+u*10+v", 999);
        worth("w", 10);
        worth("u", 2);
        worth("v", 0);
        worth("g", 0);
        worth("h+1", 1);
    }

    private static void worth(String rule, int due) {
        OverTheHill x = Checks.ruled(Checks.landOf(HILL, "10,00"), rule);
        Checks.due("worth of " + rule, x.pull(0, 1), due);
    }

    private static void promise7Field() {
        OverTheHill x = Checks.landOf(HILL, "10,00;4,00;5,03");
        Checks.due("ships at 0", x.field(0, 3), 3);
        Checks.due("ships at 3", x.field(3, 3), 4);
        Checks.due("ships at 1", x.field(1, 3), 0);
        x.drag(1, 1);
        Checks.due("ships at 0 then", x.field(0, 3), 1);
        Checks.due("ships at 1 then", x.field(1, 3), 2);
        Checks.due("no planks", x.field(4, 2), 0);
        x.plank(4);
        Checks.due("planks", x.field(4, 2), 1);
        Checks.due("planks elsewhere", x.field(5, 2), 0);
        Checks.due("height of rock", x.field(6, 1), 0);
        for (int field : new int[] {-1, 9, 36, Integer.MIN_VALUE, Integer.MAX_VALUE}) {
            Checks.noSuch("field(" + field + ", 0)", () -> x.field(field, 0));
        }
        for (int what : new int[] {-1, 4, Integer.MIN_VALUE, Integer.MAX_VALUE}) {
            Checks.noSuch("field(0, " + what + ")", () -> x.field(0, what));
        }
    }

    private static void promise8Ship() {
        OverTheHill x = Checks.landOf(HILL, "10,00;4,03");
        Checks.due("weight", x.ship(1, 0), 4);
        Checks.due("field", x.ship(1, 1), 3);
        Checks.due("not dragged", x.ship(0, 2), 0);
        x.drag(0, 1);
        Checks.due("dragged", x.ship(0, 2), 1);
        Checks.due("the other was not", x.ship(1, 2), 0);
        Checks.due("not over", x.ship(0, 3), 0);
        x.hours(1);
        Checks.due("an hour later", x.ship(0, 2), 0);
        x.drag(0, 1);
        Checks.due("over", x.ship(0, 3), 1);
        for (int ship : new int[] {-1, 2, 8, Integer.MIN_VALUE, Integer.MAX_VALUE}) {
            Checks.noSuch("ship(" + ship + ", 0)", () -> x.ship(ship, 0));
        }
        for (int what : new int[] {-1, 4, Integer.MIN_VALUE, Integer.MAX_VALUE}) {
            Checks.noSuch("ship(0, " + what + ")", () -> x.ship(0, what));
        }
    }
}
