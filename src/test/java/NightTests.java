/** Promises 24 to 27: how soon a ship is over, kinds of nights, quiet ones. */
public final class NightTests {
    private static final String HILL = "~2*/~11/#3*";

    public static void main(String[] args) {
        promise24Over();
        promise24OverByHours();
        promise24SixtyHours();
        promise25Kind();
        promise26Quiet();
        promise27Night();
        Checks.finish("NightTests");
    }

    private static void promise24Over() {
        OverTheHill x = Checks.landOf(HILL, "10,00;4,03");
        Checks.due("over", x.over(0), 2);
        Checks.due("over, the other", x.over(1), 3);
        Checks.due("ship 2", x.over(2), -1);
        Checks.due("ship -1", x.over(-1), -1);
        x.set(0, 31);
        Checks.due("as many oxen as the pull", x.over(0), 2);
        x.drag(0, 1);
        Checks.due("used, and dragged already", x.over(0), 1);
        Checks.due("other ships left aside", x.over(1), 3);
        x.undo();
        x.set(0, 30);
        Checks.due("around the hill", x.over(0), 4);
        x.set(0, 20);
        Checks.due("too few oxen", x.over(0), -2);
        x.set(0, 100);
        x.drag(0, 1);
        x.hours(1);
        x.drag(0, 1);
        Checks.due("it is there", x.over(0), 0);
        x.hours(1);
        x.set(0, 0);
        Checks.due("it is there, without oxen", x.over(0), 0);
        Checks.due("rock", Checks.landOf("~#*", "1,00").over(0), -2);
        Checks.due("beside it", Checks.landOf("~*", "1,00").over(0), 1);
    }

    private static void promise24OverByHours() {
        OverTheHill x = Checks.ruled(Checks.landOf("~*", "1,00"), "(h<7)*500");
        Checks.due("waits for hour 7", x.over(0), 8);
        x.hours(5);
        Checks.due("waits for it from hour 5", x.over(0), 3);
        x.hours(4);
        Checks.due("in hour 9", x.over(0), 1);
        x.hours(1);
        Checks.due("the night behind", x.over(0), 8);
        OverTheHill rain = Checks.ruled(Checks.landOf("~11*", "1,00"), "80");
        rain.set(0, 100);
        rain.hours(28);
        Checks.due("rain comes first", rain.over(0), 2 + 10 + 1);
        rain.set(0, 120);
        Checks.due("oxen as in rain", rain.over(0), 3);
        OverTheHill stays = Checks.ruled(Checks.landOf("~1/2*", "1,00"), "(h=0)*(u<2)*999+(h>0)*(u>0)*999");
        stays.set(0, 998);
        Checks.due("only by the hour's way", stays.over(0), 2);
    }

    private static void promise24SixtyHours() {
        // Twenty drags lead to the end of it.
        OverTheHill snake = Checks.landOf("~00000/#####0/000000/0#####/000000/#####*", "1,00");
        snake.set(0, 998);
        Checks.due("in each hour", snake.over(0), 20);
        Checks.ruled(snake, "(h-h/2*2)*999");
        Checks.due("in each second hour", snake.over(0), 39);
        Checks.ruled(snake, "(h>3)*999");
        Checks.due("in the first four hours of nights", snake.over(0), 44);
        OverTheHill few = Checks.ruled(Checks.landOf("~0000*", "1,00"), "(h<9)*999");
        few.set(0, 998);
        Checks.due("in the last hour of nights", few.over(0), 50);
        OverTheHill six = Checks.ruled(Checks.landOf("~0000/####*", "1,00"), "(h<9)*999");
        six.set(0, 998);
        Checks.due("in the last hour of nights, as far", six.over(0), 50);
        OverTheHill sixty = Checks.ruled(Checks.landOf("~00000/#####*", "1,00"), "(h<9)*999");
        sixty.set(0, 998);
        Checks.due("in sixty", sixty.over(0), 60);
        OverTheHill more = Checks.ruled(Checks.landOf("~00000/#####0/#####*", "1,00"), "(h<9)*999");
        more.set(0, 998);
        Checks.due("not in sixty", more.over(0), -2);
        more.hours(1);
        Checks.due("not in sixty, an hour later", more.over(0), -2);
        sixty.hours(1);
        Checks.due("in 59", sixty.over(0), 59);
    }

    private static void promise25Kind() {
        OverTheHill x = new OverTheHill();
        int[] noises = {9, 4, 18, 9};
        for (int night = 0; night < 5; night++) {
            for (int n = 0; n < 5; n++) {
                Checks.due("kind(" + n + ") in night " + night, x.kind(n, 99), (night + n) % 4);
                Checks.rowDue("kind(" + n + ") in night " + night, x, noises[(night + n) % 4]);
            }
            x.hours(10);
        }
        Checks.due("in 99 nights", x.kind(99, 9999), 0);
        Checks.rowDue("in 99 nights", x, 999);
        Checks.due("a pull of 0", x.kind(1, 0), 2);
        Checks.rowDue("a pull of 0", x, 0);
        Checks.due("in 100 nights", x.kind(100, 1), -1);
        Checks.due("in -1 nights", x.kind(-1, 1), -1);
        Checks.due("a pull of 10000", x.kind(0, 10000), -1);
        Checks.due("a pull of -1", x.kind(0, -1), -1);
        Checks.rowDue("refused: the row stays", x, 0);
    }

    private static void promise26Quiet() {
        OverTheHill x = new OverTheHill();
        int[] quiet = {509, 1019, 259, 509};
        for (int night = 0; night < 5; night++) {
            for (int n = 0; n < 5; n++) {
                Checks.due("quiet(" + n + ") in night " + night, x.quiet(n), quiet[(night + n) % 4]);
            }
            x.hours(10);
        }
        x.undo();
        x.set(1, 0);
        Checks.due("an ear of 0, plain", x.quiet(0), 9);
        Checks.due("an ear of 0, drums", x.quiet(1), 19);
        Checks.due("an ear of 0, moon", x.quiet(2), 9);
        x.set(1, 1);
        Checks.due("an ear of 1, moon", x.quiet(98), 9);
        x.set(1, 3);
        Checks.due("an ear of 3, moon", x.quiet(98), 19);
        x.set(1, 999);
        Checks.due("the deafest, plain", x.quiet(0), 9999);
        Checks.due("the deafest, drums", x.quiet(1), 9999);
        Checks.due("the deafest, moon", x.quiet(2), 4999);
        Checks.due("in 99 nights", x.quiet(99), 9999);
        Checks.due("in 100 nights", x.quiet(100), -1);
        Checks.due("in -1 nights", x.quiet(-1), -1);
    }

    private static void promise27Night() {
        OverTheHill x = Checks.landOf(HILL);
        Checks.due("drums are best", x.night(10, 0, 2), 1);
        Checks.rowDue("drums are best", x, 1);
        Checks.due("to the same", x.night(10, 4, 4), 0);
        Checks.rowDue("to the same", x, 0);
        x.hours(25);
        Checks.due("from a moonlit night", x.night(10, 0, 2), 3);
        Checks.rowDue("from a moonlit night", x, 1);
        x.hours(10);
        Checks.due("from a rainy night", x.night(10, 0, 2), 2);
        OverTheHill light = Checks.landOf("~~");
        light.hours(10);
        Checks.due("all as quiet: the first", light.night(1, 0, 1), 0);
        Checks.rowDue("all as quiet: the first", light, 0);
        // Each step has a pull of 19: noise 1, with drums 0, by moon 2, in rain 28: 2.
        OverTheHill steps = Checks.ruled(Checks.landOf("~000*"), "19");
        Checks.due("each pull by itself", steps.night(1, 0, 4), 1);
        Checks.rowDue("each pull by itself", steps, 0);
        // In hour 0 alone a pull is 50, whatever hour it is now.
        OverTheHill hour = Checks.ruled(Checks.landOf("~*"), "(h=0)*50");
        hour.hours(3);
        Checks.due("in hour 0", hour.night(1, 0, 1), 1);
        Checks.rowDue("in hour 0", hour, 2);
        Checks.due("no way", Checks.landOf("~#*").night(1, 0, 2), -2);
    }
}
