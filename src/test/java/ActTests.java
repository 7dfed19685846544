/** Promises 9 to 16: PULLS, what is set, sheets, acts and undoing them. */
public final class ActTests {
    private static final String HILL = "~2*/~11/#3*";

    public static void main(String[] args) {
        promise9Pull();
        promise9PullByRule();
        promise9PullInRain();
        promise10Set();
        promise11Sheet();
        promise12Drag();
        promise12DragRefused();
        promise12Noise();
        promise13Plank();
        promise14Hours();
        promise15Siege();
        promise15SiegeRefused();
        promise16Undo();
        promise16Fifteen();
        promise16Forgotten();
        Checks.finish("ActTests");
    }

    private static void promise9Pull() {
        OverTheHill x = Checks.landOf(HILL, "10,00;4,03");
        Checks.due("up, outside", x.pull(0, 0), -2);
        Checks.due("right, uphill", x.pull(0, 1), 31);
        Checks.due("down, at sea, where a ship is", x.pull(0, 2), 11);
        Checks.due("left, outside", x.pull(0, 3), -2);
        Checks.due("down, rock", x.pull(1, 2), -2);
        Checks.due("a heading of -1", x.pull(0, -1), -1);
        Checks.due("a heading of 4", x.pull(0, 4), -1);
        Checks.due("ship -1", x.pull(-1, 0), -1);
        Checks.due("ship 2", x.pull(2, 0), -1);
        Checks.due("ship 2 outside", x.pull(2, 9), -1);
        x.drag(0, 1);
        x.drag(1, 1);
        Checks.due("a ship on land there", x.pull(1, 0), -2);
        Checks.due("dragged already, yet a pull", x.pull(1, 1), 5);
        Checks.due("back at sea, downhill", x.pull(1, 3), 5);
        x.set(0, 40);
        Checks.due("more than oxen", x.pull(0, 1), 11);
        OverTheHill edge = Checks.landOf("~1/~1", "3,00");
        edge.drag(0, 1);
        edge.hours(1);
        Checks.due("right of the last column is no field", edge.pull(0, 1), -2);
        Checks.due("left is the first column", edge.pull(0, 3), 4);
    }

    private static void promise9PullByRule() {
        OverTheHill x = Checks.ruled(Checks.landOf("~3/~*", "10,00"), "u*100+v*10+g*5+h");
        x.plank(1);
        Checks.due("up by 3, on planks", x.pull(0, 1), 305);
        x.set(0, 999);
        x.drag(0, 1);
        x.hours(4);
        Checks.due("down by 3, hour 4, no planks there", x.pull(0, 2), 34);
        Checks.due("down by 3 to the sea", x.pull(0, 3), 34);
        Checks.ruled(x, "h*999");
        Checks.due("put to 999", x.pull(0, 2), 999);
        Checks.ruled(x, "h-999");
        Checks.due("put to 0", x.pull(0, 2), 0);
    }

    private static void promise9PullInRain() {
        OverTheHill x = Checks.ruled(Checks.landOf("~~", "10,00"), "w+1");
        x.hours(29);
        Checks.due("by moon", x.pull(0, 1), 11);
        x.hours(1);
        Checks.due("in rain", x.pull(0, 1), 16);
        Checks.ruled(x, "999");
        Checks.due("in rain, the most", x.pull(0, 1), 1498);
        Checks.due("in rain, more than any oxen", x.drag(0, 1), -4);
        x.hours(10);
        Checks.due("a plain night again", x.pull(0, 1), 999);
    }

    private static void promise10Set() {
        OverTheHill x = Checks.landOf(HILL, "10,00");
        Checks.due("oxen", x.set(0, 999), 100);
        Checks.due("oxen again", x.set(0, 0), 999);
        Checks.due("oxen are", x.count(3), 0);
        Checks.due("ear", x.set(1, 0), 50);
        Checks.due("ear again", x.set(1, 999), 0);
        Checks.due("ear is", x.count(7), 999);
        Checks.due("oxen above", x.set(0, 1000), -1);
        Checks.due("oxen below", x.set(0, -1), -1);
        Checks.due("ear above", x.set(1, 1000), -1);
        Checks.due("ear below", x.set(1, -1), -1);
        Checks.due("what 2", x.set(2, 5), -1);
        Checks.due("what -1", x.set(-1, 5), -1);
        x.set(0, 100);
        x.drag(0, 1);
        Checks.due("oxen below used", x.set(0, 30), -1);
        Checks.due("oxen below used: they stay", x.count(3), 100);
        Checks.due("oxen as used", x.set(0, 31), 100);
        Checks.due("ear below used", x.set(1, 3), 999);
    }

    private static void promise11Sheet() {
        OverTheHill x = Checks.landOf(HILL, "10,00;4,03;77,00");
        Checks.due("ints", x.sheet(2, 3, 10, 20), 90);
        Checks.due("ints: the last", x.ship(2, 0), 50);
        Checks.due("fewer entries", x.sheet(2, 1, 7, 1), 9);
        Checks.due("fewer entries: behind them", x.ship(1, 0), 1);
        Checks.due("no entries", x.sheet(0, 0, 7, 1), 3);
        Checks.due("more entries", x.sheet(1, 8, 5, 1), 18);
        Checks.due("put to 1 .. 99", x.sheet(2, 3, 150, -100), 150);
        Checks.due("put to 99", x.ship(0, 0), 99);
        Checks.due("put to 1", x.ship(2, 0), 1);
        Checks.due("bytes", x.sheet(0, 3, 300, 1), 44 + 45 + 46);
        Checks.due("bytes with their sign", x.sheet(0, 3, 200, 60), 1 + 4 + 64);
        Checks.due("shorts", x.sheet(1, 3, 65536 + 5, 32768), 5 + 1 + 5);
        Checks.due("ints that wrap", x.sheet(2, 3, Integer.MAX_VALUE, 7), 99 + 1 + 1);
        Checks.due("n 9", x.sheet(0, 9, 5, 1), -1);
        Checks.due("n 9, missing", x.sheet(3, 9, 5, 1), -1);
        Checks.due("kind 4", x.sheet(4, 2, 5, 1), -1);
        Checks.due("kind -1", x.sheet(-1, 2, 5, 1), -1);
        Checks.due("kind 4, n below 0", x.sheet(4, -1, 5, 1), -1);
        for (int kind = 0; kind < 3; kind++) {
            Checks.due("n below 0", x.sheet(kind, -1, 5, 1), -2);
        }
        Checks.due("refused: nothing changes", x.ship(0, 0), 99);
        Checks.due("missing, n below 0", x.sheet(3, -1, 5, 1), -3);
        Checks.due("missing: all 1", x.ship(0, 0), 1);
        x.sheet(2, 3, 9, 9);
        Checks.due("missing", x.sheet(3, 8, 5, 1), -3);
        Checks.due("missing: all 1 again", x.ship(0, 0) + x.ship(1, 0) + x.ship(2, 0), 3);
        Checks.due("a sheet is not undone", x.undo(), -1);
    }

    private static void promise12Drag() {
        OverTheHill x = Checks.landOf(HILL, "10,00;4,03");
        Checks.due("drag", x.drag(0, 1), 69);
        Checks.due("drag: where it is", x.ship(0, 1), 1);
        Checks.due("drag: used", x.count(4), 31);
        Checks.due("drag: noise", x.count(8), 3);
        Checks.due("drag: the other one", x.drag(1, 1), 60);
        Checks.due("drag: used by both", x.count(4), 40);
        Checks.due("drag: noise of both", x.count(8), 3);
        x.hours(1);
        Checks.due("an hour later", x.drag(0, 1), 89);
        Checks.due("an hour later: over", x.count(11), 1);
        Checks.due("in the harbour, further", x.drag(1, 1), 84);
        x.hours(1);
        Checks.due("out of the harbour again", x.drag(0, 3), 69);
    }

    private static void promise12DragRefused() {
        OverTheHill x = Checks.landOf(HILL, "10,00;4,00;5,03");
        x.drag(0, 1);
        Checks.due("no such ship", x.drag(3, 0), -1);
        Checks.due("no such heading", x.drag(0, 4), -1);
        Checks.due("it can't, though it was dragged", x.drag(0, 0), -2);
        Checks.due("it was dragged, though oxen are few", refusedByFew(x), -3);
        Checks.due("a ship on land there", x.drag(1, 1), -2);
        x.set(0, 35);
        Checks.due("too few oxen", x.drag(1, 2), -4);
        Checks.due("too few oxen: nothing is used", x.count(4), 31);
        Checks.due("too few oxen: it is where it was", x.ship(1, 1), 0);
        Checks.due("too few oxen: it was not dragged", x.ship(1, 2), 0);
        x.set(0, 36);
        Checks.due("just enough oxen", x.drag(1, 2), 0);
        Checks.due("rock", x.drag(2, 2), -2);
        Checks.due("refused: to be undone", x.count(13), 2);
        OverTheHill few = Checks.landOf("~~", "10,00");
        few.drag(0, 1);
        few.hours(1);
        few.set(0, 5);
        few.undo();
        Checks.due("more used than oxen are: used", few.count(4), 11);
        Checks.ruled(few, "0");
        few.sheet(2, 1, 1, 0);
        Checks.tell(few, "1,00").ships();
        Checks.due("more used than oxen are: a pull of 0", few.drag(1, 1), -4);
    }

    private static int refusedByFew(OverTheHill x) {
        x.set(0, 31);
        int answer = x.drag(0, 1);
        x.set(0, 100);
        return answer;
    }

    private static void promise12Noise() {
        OverTheHill x = Checks.ruled(Checks.landOf("~~", "10,00"), "79");
        int[] noises = {7, 3, 14, 11};
        for (int night = 0; night < 8; night++) {
            x.set(0, 999);
            x.drag(0, night % 2 == 0 ? 1 : 3);
            Checks.due("noise of night " + night, x.count(8), noises[night % 4]);
            x.hours(10);
        }
    }

    private static void promise13Plank() {
        OverTheHill x = Checks.landOf(HILL, "10,00");
        Checks.due("laid", x.plank(4), 1);
        Checks.due("laid too", x.plank(1), 2);
        Checks.due("taken up", x.plank(4), 1);
        Checks.due("taken up: none there", x.field(4, 2), 0);
        Checks.due("the other is there", x.field(1, 2), 1);
        Checks.due("sea", x.plank(0), -2);
        Checks.due("harbour", x.plank(2), -2);
        Checks.due("rock", x.plank(6), -2);
        Checks.due("field -1", x.plank(-1), -1);
        Checks.due("field 9", x.plank(9), -1);
        Checks.due("field 36", x.plank(36), -1);
        Checks.due("field 65, bit 1 of a long", x.plank(65), -1);
        Checks.due("to be undone", x.count(13), 3);
        x.drag(0, 1);
        Checks.due("beneath a ship", x.plank(1), 0);
        OverTheHill far = Checks.landOf("111111/111111/111111/111111/111111/111111");
        for (int field = 0; field < 36; field++) {
            Checks.due("laid at " + field, far.plank(field), field + 1);
        }
    }

    private static void promise14Hours() {
        OverTheHill x = Checks.landOf(HILL, "10,00;4,03");
        x.pass();
        Checks.due("no hours", x.hours(0), -1);
        Checks.due("hours below 0", x.hours(-1), -1);
        Checks.due("31 hours", x.hours(31), -1);
        Checks.rowDue("refused hours", x, 317);
        Checks.due("refused hours: to be undone", x.count(13), 0);
        Checks.due("9 hours", x.hours(9), 9);
        Checks.rowDue("9 hours", x, 0);
        Checks.due("one more", x.hours(1), 10);
        Checks.due("night", x.count(5), 1);
        Checks.due("hour", x.count(6), 0);
        Checks.due("30 hours", x.hours(30), 40);
        x.set(1, 2);
        x.drag(0, 1);
        Checks.due("noise above the ear", x.count(8), 3);
        Checks.due("alarm", x.hours(5), 45);
        Checks.rowDue("alarm", x, 1);
        Checks.due("alarms", x.count(9), 1);
        Checks.due("used then", x.count(4), 0);
        Checks.due("noise then", x.count(8), 0);
        Checks.due("dragged then", x.ship(0, 2), 0);
        x.drag(0, 3);
        x.hours(1);
        x.drag(0, 1);
        x.set(1, 3);
        x.hours(1);
        Checks.rowDue("noise as the ear", x, 0);
        Checks.due("alarms stay", x.count(9), 1);
    }

    private static void promise15Siege() {
        OverTheHill x = Checks.landOf(HILL, "10,00;4,03");
        Checks.due("an empty siege", Checks.tell(x, "").siege(), 0);
        Checks.rowDue("an empty siege", x, 0, 0);
        Checks.due("an empty siege: to be undone", x.count(13), 0);
        Checks.due("a siege", Checks.tell(x, "d01p04h1d01h9").siege(), 5);
        Checks.rowDue("a siege", x, 0, 1);
        Checks.due("a siege: signs", x.count(15), 0);
        Checks.due("a siege: planks", x.field(4, 2), 1);
        Checks.due("a siege: night", x.count(5), 1);
        Checks.due("a siege: over", x.count(11), 1);
        Checks.due("a siege: to be undone", x.count(13), 1);
        Checks.due("refused behind two", Checks.tell(x, "h1d11d11h1").siege(), 2);
        Checks.rowDue("refused behind two", x, 1, 1);
        Checks.due("refused behind two: hour", x.count(6), 1);
        Checks.due("refused behind two: to be undone", x.count(13), 2);
        Checks.due("refused at once", Checks.tell(x, "d90h1").siege(), 0);
        Checks.rowDue("refused at once", x, 1, 1);
        Checks.due("refused at once: to be undone", x.count(13), 2);
        Checks.due("no such field", Checks.tell(x, "p99").siege(), 0);
        Checks.rowDue("no such field", x, 1, 1);
        Checks.due("no land", Checks.tell(x, "p00").siege(), 0);
        Checks.due("undone as one", x.undo(), 1);
        Checks.due("undone as one: hour", x.count(6), 0);
        Checks.due("undone as one too", x.undo(), 0);
        Checks.due("undone as one too: where", x.ship(0, 1), 0);
        Checks.due("undone as one too: planks", x.count(10), 0);
        x.set(0, 31);
        Checks.due("an act that answers 0 is done", Checks.tell(x, "d01").siege(), 1);
        Checks.rowDue("an act that answers 0 is done", x, 0, 0);
        Checks.due("an act alone is undone", x.undo(), 0);
        x.plank(1);
        Checks.due("planks taken up answer 0, and are", Checks.tell(x, "p01d13").siege(), 1);
        x.undo();
        x.undo();
        Checks.due("a heading of 3", Checks.tell(x, "d01h1d03").siege(), 3);
        x.undo();
        Checks.due("a heading of 0", Checks.tell(x, "d10").siege(), 1);
        x.undo();
        Checks.due("60 signs", Checks.tell(x, "h1".repeat(30)).siege(), 30);
        Checks.due("60 signs: night", x.count(5), 3);
    }

    private static void promise15SiegeRefused() {
        badSiege("x", 0);
        badSiege("d", 1);
        badSiege("d0", 2);
        badSiege("dx", 1);
        badSiege("d04", 2);
        badSiege("d0x", 2);
        badSiege("p", 1);
        badSiege("p0", 2);
        badSiege("p0x", 2);
        badSiege("px0", 1);
        badSiege("h", 1);
        badSiege("h0", 1);
        badSiege("hx", 1);
        badSiege("h1h", 3);
        badSiege("h1d01x", 5);
        badSiege("h1d01 ", 5);
        badSiege("h12", 2);
        badSiege("d011", 3);
        badSiege("h1".repeat(30) + "h", 60);
        badSiege("h1".repeat(30) + "x", 60);
        badSiege("h1".repeat(30) + "h1", 60);
        badSiege("h1".repeat(29) + "d01", 60);
        badSiege("h1".repeat(29) + "p0x", 60);
        badSiege("h1".repeat(29) + "px1", 59);
        badSiege("h1".repeat(29) + "hx1", 59);
    }

    private static void badSiege(String text, int place) {
        OverTheHill x = Checks.landOf(HILL, "10,00;4,03");
        x.pass();
        Checks.due("siege of " + text, Checks.tell(x, text).siege(), -1 - place);
        Checks.due("siege of " + text + ": signs", x.count(15), 0);
        Checks.due("siege of " + text + ": hour", x.count(6), 0);
        Checks.due("siege of " + text + ": where", x.ship(0, 1), 0);
        Checks.due("siege of " + text + ": to be undone", x.count(13), 0);
        Checks.rowDue("siege of " + text, x, 317);
    }

    private static void promise16Undo() {
        OverTheHill x = Checks.landOf(HILL, "10,00;4,03");
        x.set(1, 2);
        Checks.due("nothing", x.undo(), -1);
        x.plank(4);
        x.drag(0, 1);
        x.hours(11);
        Checks.due("three", x.count(13), 3);
        x.set(0, 200);
        x.sheet(2, 2, 50, 1);
        Checks.ruled(x, "w");
        x.trace(5, 1);
        Checks.due("hours undone", x.undo(), 2);
        Checks.due("hours undone: night", x.count(5), 0);
        Checks.due("hours undone: hour", x.count(6), 0);
        Checks.due("hours undone: used", x.count(4), 31);
        Checks.due("hours undone: noise", x.count(8), 3);
        Checks.due("hours undone: alarms", x.count(9), 0);
        Checks.due("hours undone: dragged", x.ship(0, 2), 1);
        Checks.rowDue("hours undone: the row stays", x, 1);
        Checks.due("drag undone", x.undo(), 1);
        Checks.due("drag undone: where", x.ship(0, 1), 0);
        Checks.due("drag undone: used", x.count(4), 0);
        Checks.due("drag undone: noise", x.count(8), 0);
        Checks.due("drag undone: dragged", x.ship(0, 2), 0);
        Checks.due("drag undone: planks", x.count(10), 1);
        Checks.due("plank undone", x.undo(), 0);
        Checks.due("plank undone: planks", x.count(10), 0);
        Checks.due("nothing is left", x.undo(), -1);
        Checks.due("oxen stay", x.count(3), 200);
        Checks.due("ear stays", x.count(7), 2);
        Checks.due("weights stay", x.ship(0, 0), 50);
        Checks.due("traces stay", x.count(12), 1);
        Checks.due("THE RULE stays", x.pull(0, 1), 50);
    }

    private static void promise16Fifteen() {
        OverTheHill x = Checks.landOf(HILL, "10,00");
        for (int i = 1; i <= 20; i++) {
            x.hours(1);
            Checks.due("kept behind " + i, x.count(13), Math.min(15, i));
        }
        Checks.due("a refused one leaves them", x.hours(0), -1);
        Checks.tell(x, "d90").siege();
        Checks.due("a siege of nothing leaves them", x.count(13), 15);
        for (int i = 14; i >= 0; i--) {
            Checks.due("left", x.undo(), i);
            Checks.due("night and hour", x.count(5) * 10 + x.count(6), 5 + i);
        }
        Checks.due("no more", x.undo(), -1);
        x.hours(2);
        x.plank(1);
        Checks.due("anew", x.undo(), 1);
        Checks.due("anew too", x.undo(), 0);
        Checks.due("anew: hour", x.count(6), 5);
    }

    private static void promise16Forgotten() {
        OverTheHill x = Checks.landOf(HILL, "10,00");
        x.keep(0);
        x.hours(1);
        x.again(1);
        Checks.due("again() refused", x.count(13), 1);
        x.again(0);
        Checks.due("again()", x.count(13), 0);
        x.hours(1);
        Checks.tell(x, "1,01").ships();
        Checks.tell(x, "").ships();
        Checks.tell(x, "").land();
        Checks.due("ships() and land() refused, or empty", x.count(13), 1);
        Checks.tell(x, "1,00").ships();
        Checks.due("ships()", x.count(13), 0);
        x.hours(1);
        Checks.tell(x, HILL).land();
        Checks.due("land()", x.undo(), -1);
    }
}
