import java.util.NoSuchElementException;
import java.util.Random;

/** All promises: runs of calls drawn by seeds, OverTheHill and PlainHill compared after each call. */
public final class ModelTests {
    private static final int RUNS = 3000;
    private static final int CALLS = 400;
    private static final String[] NAMES = {
        "sign", "end", "land", "ships", "rule", "field", "ship", "pull", "set", "sheet", "drag", "plank", "hours",
        "siege", "undo", "way", "easy", "soon", "pass", "oxen", "can", "planks", "over", "kind", "quiet", "night",
        "walls", "storm", "town", "secret", "told", "trace", "forget", "fits", "ask", "law", "rests", "sieges",
        "keep", "again", "count", "row"};
    /** How often each is drawn, in the same order. */
    private static final int[] SHARES = {
        1, 1, 1, 6, 8, 4, 4, 12, 8, 4, 60, 14, 10,
        16, 14, 8, 8, 8, 6, 8, 6, 4, 12, 4, 4, 6,
        4, 2, 2, 2, 2, 8, 2, 5, 5, 10, 2, 10,
        6, 6, 2, 2};

    private final Random random;
    private final boolean large;
    private final OverTheHill x = new OverTheHill();
    private final PlainHill y = new PlainHill();
    private final StringBuilder told = new StringBuilder();
    private int rows = 1;
    private int columns = 1;
    private String land = "~";

    private ModelTests(long seed, boolean large) {
        random = new Random(seed);
        this.large = large;
    }

    public static void main(String[] args) {
        for (int run = 0; run < RUNS; run++) {
            if (!new ModelTests(run, run % 10 == 0).run()) {
                System.exit(1);
            }
        }
        System.out.println("ModelTests: " + RUNS + " runs agree");
    }

    private boolean run() {
        newLand();
        for (int i = 0; i < CALLS; i++) {
            String name = i == 0 ? "land" : i == 1 ? "ships" : drawnName();
            int[] a = arguments(name);
            if ("land ships rule siege walls law".contains(name)) {
                tell(textFor(name));
            }
            long before = y.count(15);
            long got = callHill(x, name, a);
            long want = callPlain(y, name, a);
            told.append(name).append(java.util.Arrays.toString(a)).append(" = ").append(want).append('\n');
            if (got != want || !sameState()) {
                System.out.println(told);
                System.out.println("the last call answered " + got + ", due is " + want + "; signs ahead: " + before);
                return false;
            }
            if (name.equals("land") && want < 0 && i == 0) {
                i--;
                newLand();
            }
        }
        return true;
    }

    private String drawnName() {
        int all = 0;
        for (int share : SHARES) {
            all += share;
        }
        int at = random.nextInt(all);
        for (int i = 0;; i++) {
            at -= SHARES[i];
            if (at < 0) {
                return NAMES[i];
            }
        }
    }

    private void newLand() {
        int most = large ? 6 : 4;
        rows = 1 + random.nextInt(most);
        columns = 1 + random.nextInt(most);
        String signs = random.nextInt(3) == 0 ? "~~*#0123456789" : "~~~**#00111223";
        StringBuilder b = new StringBuilder();
        for (int r = 0; r < rows; r++) {
            b.append(r == 0 ? "" : "/");
            for (int c = 0; c < columns; c++) {
                b.append(signs.charAt(random.nextInt(signs.length())));
            }
        }
        b.setCharAt(0, '~');
        land = b.toString();
    }

    // ---- texts

    private String textFor(String name) {
        String text;
        switch (name) {
            case "land":
                if (random.nextInt(2) == 0) {
                    newLand();
                }
                text = land;
                break;
            case "ships":
                text = shipsText();
                break;
            case "siege":
                text = siegeText();
                break;
            case "walls":
                text = "";
                for (int i = random.nextInt(6); i > 0; i--) {
                    text += 1 + random.nextInt(9);
                }
                break;
            default:
                text = random.nextInt(8) == 0 ? "" : expression(random.nextInt(5), 0);
                break;
        }
        return random.nextInt(4) == 0 ? spoilt(text) : text;
    }

    private String shipsText() {
        StringBuilder b = new StringBuilder();
        for (int i = 1 + random.nextInt(3); i > 0; i--) {
            String flat = land.replace("/", "");
            int field = random.nextInt(rows * columns);
            for (int tries = 0; tries < 20 && flat.charAt(field) != '~'; tries++) {
                field = random.nextInt(rows * columns);
            }
            int weight = random.nextInt(20) == 0 ? 0 : 1 + random.nextInt(random.nextInt(3) == 0 ? 99 : 15);
            b.append(weight).append(',').append(field / 10).append(field % 10).append(i > 1 ? ";" : "");
        }
        return b.toString();
    }

    private String siegeText() {
        StringBuilder b = new StringBuilder();
        for (int i = random.nextInt(8); i > 0; i--) {
            int kind = random.nextInt(7);
            if (kind < 4) {
                b.append('d').append(random.nextInt(4)).append(random.nextInt(4));
            } else if (kind < 5) {
                int field = random.nextInt(rows * columns);
                b.append('p').append(field / 10).append(field % 10);
            } else {
                b.append('h').append(1 + random.nextInt(random.nextInt(3) == 0 ? 9 : 2));
            }
        }
        return b.toString();
    }

    private String expression(int size, int depth) {
        if (size <= 0) {
            int kind = random.nextInt(12);
            String thing = kind < 8 ? "wwuvgghw".substring(kind, kind + 1) : "" + random.nextInt(kind < 11 ? 12 : 1000);
            return (random.nextInt(10) == 0 ? random.nextBoolean() ? "-" : "--" : "") + thing;
        }
        String joined = expression(size / 2 - 1, depth + 1) + "+-**/<>=".charAt(random.nextInt(8))
                + expression(size - size / 2 - 1, depth + 1);
        return random.nextInt(3) == 0 ? "(" + joined + ")" : joined;
    }

    /** A sign put in, taken out or made another one, or much more of it. */
    private String spoilt(String text) {
        StringBuilder b = new StringBuilder(text);
        String signs = "0123456789~*#/,;dphwuvgh()+-<>=" + (char) 0 + (char) 233;
        for (int i = 1 + random.nextInt(2); i > 0; i--) {
            char sign = signs.charAt(random.nextInt(signs.length()));
            int at = random.nextInt(b.length() + 1);
            int kind = random.nextInt(7);
            if (kind < 3 || at == b.length()) {
                b.insert(at, sign);
            } else if (kind < 5) {
                b.setCharAt(at, sign);
            } else if (kind < 6) {
                b.deleteCharAt(at);
            } else {
                String all = b.toString();
                String between = new String[] {"", "+", ";", "/"}[random.nextInt(4)];
                while (all.length() > 0 && b.length() + all.length() + 1 < 70) {
                    b.append(between).append(all);
                }
            }
        }
        return b.length() > 80 ? b.substring(0, 80) : b.toString();
    }

    private void tell(String text) {
        Checks.tell(x, text);
        y.end(0);
        for (int i = 0; i < text.length(); i += 4) {
            int v = 0;
            for (int k = i; k < i + 4; k++) {
                v = v << 8 | (k < text.length() ? text.charAt(k) & 255 : 0);
            }
            y.sign(v);
        }
        y.end(text.length());
        told.append("\"").append(text).append("\" ");
    }

    // ---- arguments

    private int[] arguments(String name) {
        int[] a = new int[4];
        for (int i = 0; i < 4; i++) {
            a[i] = random.nextInt(12) - 1;
        }
        int fields = rows * columns;
        switch (name) {
            case "sign":
                a[0] = random.nextInt();
                break;
            case "end":
                a[0] = random.nextInt(90) - 2;
                break;
            case "field": case "plank":
                a[0] = random.nextInt(fields + 2) - 1;
                a[1] = random.nextInt(6) - 1;
                break;
            case "ship": case "pull": case "drag": case "law": case "over": case "oxen":
                a[0] = random.nextInt(12) == 0 ? random.nextInt(11) - 1 : random.nextInt(3);
                a[1] = random.nextInt(20) == 0 ? random.nextInt(6) - 1 : random.nextInt(4);
                break;
            case "set":
                a[0] = random.nextInt(12) == 0 ? random.nextInt(4) - 1 : random.nextInt(2);
                a[1] = random.nextInt(3) == 0 ? random.nextInt(1002) - 1 : random.nextInt(a[0] == 1 ? 12 : 160);
                break;
            case "sheet":
                a[0] = random.nextInt(6) - 1;
                a[2] = random.nextInt(3) == 0 ? random.nextInt() : random.nextInt(300) - 100;
                a[3] = random.nextInt(3) == 0 ? random.nextInt() : random.nextInt(60) - 20;
                break;
            case "hours":
                a[0] = random.nextInt(3) == 0 ? random.nextInt(34) - 1 : 1 + random.nextInt(4);
                break;
            case "way": case "easy": case "soon": case "night": case "planks":
                a[0] = random.nextInt(12) == 0 ? random.nextInt(103) - 1 : 1 + random.nextInt(30);
                a[1] = random.nextInt(12) == 0 ? random.nextInt(40) - 2 : random.nextInt(fields);
                a[2] = random.nextInt(12) == 0 ? random.nextInt(40) - 2 : random.nextInt(fields);
                if (name.equals("planks")) {
                    a[1] = random.nextInt(large ? 2 : 5) - (large ? 0 : 1);
                }
                break;
            case "kind": case "quiet":
                a[0] = random.nextInt(103) - 1;
                a[1] = random.nextInt(10100) - 50;
                break;
            case "walls":
                a[0] = random.nextInt(10) == 0 ? random.nextInt(110) - 5 : random.nextInt(30);
                break;
            case "storm":
                a[0] = random.nextInt(9) - 1;
                a[1] = random.nextInt(9) - 1;
                break;
            case "town":
                a[0] = random.nextInt(63) - 1;
                a[1] = random.nextInt(23) - 1;
                break;
            case "secret":
                a[0] = random.nextInt(15) - 1;
                a[1] = random.nextInt(13) - 1;
                break;
            case "told":
                a[0] = random.nextInt(13) - 1;
                a[1] = random.nextInt(104) - 1;
                break;
            case "trace":
                a[0] = random.nextInt(3) == 0 ? random.nextInt(102) - 1 : 1 + random.nextInt(20);
                a[1] = random.nextInt(10) == 0 ? random.nextInt(4) - 1 : random.nextInt(2);
                break;
            case "rests":
                a[0] = random.nextInt(103) - 1;
                a[1] = random.nextInt(24) - 1;
                break;
            case "sieges":
                a[0] = random.nextInt();
                a[1] = random.nextInt(103) - 1;
                break;
            case "keep": case "again":
                a[0] = random.nextInt(10) == 0 ? random.nextInt(6) - 1 : random.nextInt(3);
                break;
            case "count":
                a[0] = random.nextInt(20) - 2;
                break;
            default:
                break;
        }
        return a;
    }

    // ---- both

    private boolean sameState() {
        for (int what = 0; what <= 15; what++) {
            if (x.count(what) != y.count(what)) {
                System.out.println("count(" + what + "): " + x.count(what) + ", due is " + y.count(what));
                return false;
            }
        }
        for (int i = 0; i < y.count(14); i++) {
            if (x.row(i) != y.row(i)) {
                System.out.println("row(" + i + "): " + x.row(i) + ", due is " + y.row(i));
                return false;
            }
        }
        for (int ship = 0; ship < y.count(2); ship++) {
            for (int what = 0; what < 4; what++) {
                if (x.ship(ship, what) != y.ship(ship, what)) {
                    System.out.println("ship(" + ship + ", " + what + ") is another one");
                    return false;
                }
            }
        }
        for (int field = 0; field < y.count(0) * y.count(1); field++) {
            for (int what = 0; what < 4; what++) {
                if (x.field(field, what) != y.field(field, what)) {
                    System.out.println("field(" + field + ", " + what + ") is another one");
                    return false;
                }
            }
        }
        return true;
    }

    private static long callHill(OverTheHill x, String name, int[] a) {
        try {
            return plainlyCalled(x, name, a);
        } catch (NoSuchElementException e) {
            return PlainHill.THROWN;
        }
    }

    private static long plainlyCalled(OverTheHill x, String name, int[] a) {
        switch (name) {
            case "sign": return x.sign(a[0]);
            case "end": return x.end(a[0]) ? 1 : 0;
            case "land": return x.land();
            case "ships": return x.ships();
            case "rule": return x.rule();
            case "field": return x.field(a[0], a[1]);
            case "ship": return x.ship(a[0], a[1]);
            case "pull": return x.pull(a[0], a[1]);
            case "set": return x.set(a[0], a[1]);
            case "sheet": return x.sheet(a[0], a[1], a[2], a[3]);
            case "drag": return x.drag(a[0], a[1]);
            case "plank": return x.plank(a[0]);
            case "hours": return x.hours(a[0]);
            case "siege": return x.siege();
            case "undo": return x.undo();
            case "way": return x.way(a[0], a[1], a[2]);
            case "easy": return x.easy(a[0], a[1], a[2]);
            case "soon": return x.soon(a[0], a[1], a[2]);
            case "pass": return x.pass();
            case "oxen": return x.oxen(a[0]);
            case "can": return x.can();
            case "planks": return x.planks(a[0], a[1]);
            case "over": return x.over(a[0]);
            case "kind": return x.kind(a[0], a[1]);
            case "quiet": return x.quiet(a[0]);
            case "night": return x.night(a[0], a[1], a[2]);
            case "walls": return x.walls(a[0]);
            case "storm": return x.storm(a[0], a[1]);
            case "town": return x.town(a[0], a[1]);
            case "secret": return x.secret(a[0], a[1]);
            case "told": return x.told(a[0], a[1]);
            case "trace": return x.trace(a[0], a[1]);
            case "forget": return x.forget();
            case "fits": return x.fits();
            case "ask": return x.ask();
            case "law": return x.law(a[0]);
            case "rests": return x.rests(a[0], a[1]);
            case "sieges": return x.sieges(a[0], a[1]);
            case "keep": return x.keep(a[0]) ? 1 : 0;
            case "again": return x.again(a[0]) ? 1 : 0;
            case "count": return x.count(a[0]);
            case "row": return x.row(a[0]);
            default: throw new IllegalStateException(name);
        }
    }

    private static long callPlain(PlainHill y, String name, int[] a) {
        switch (name) {
            case "sign": return y.sign(a[0]);
            case "end": return y.end(a[0]);
            case "land": return y.land();
            case "ships": return y.ships();
            case "rule": return y.rule();
            case "field": return y.field(a[0], a[1]);
            case "ship": return y.ship(a[0], a[1]);
            case "pull": return y.pull(a[0], a[1]);
            case "set": return y.set(a[0], a[1]);
            case "sheet": return y.sheet(a[0], a[1], a[2], a[3]);
            case "drag": return y.drag(a[0], a[1]);
            case "plank": return y.plank(a[0]);
            case "hours": return y.hours(a[0]);
            case "siege": return y.siege();
            case "undo": return y.undo();
            case "way": return y.way(a[0], a[1], a[2]);
            case "easy": return y.easy(a[0], a[1], a[2]);
            case "soon": return y.soon(a[0], a[1], a[2]);
            case "pass": return y.pass();
            case "oxen": return y.oxen(a[0]);
            case "can": return y.can();
            case "planks": return y.planks(a[0], a[1]);
            case "over": return y.over(a[0]);
            case "kind": return y.kind(a[0], a[1]);
            case "quiet": return y.quiet(a[0]);
            case "night": return y.night(a[0], a[1], a[2]);
            case "walls": return y.walls(a[0]);
            case "storm": return y.storm(a[0], a[1]);
            case "town": return y.town(a[0], a[1]);
            case "secret": return y.secret(a[0], a[1]);
            case "told": return y.told(a[0], a[1]);
            case "trace": return y.trace(a[0], a[1]);
            case "forget": return y.forget();
            case "fits": return y.fits();
            case "ask": return y.ask();
            case "law": return y.law(a[0]);
            case "rests": return y.rests(a[0], a[1]);
            case "sieges": return y.sieges(a[0], a[1]);
            case "keep": return y.keep(a[0]);
            case "again": return y.again(a[0]);
            case "count": return y.count(a[0]);
            case "row": return y.row(a[0]);
            default: throw new IllegalStateException(name);
        }
    }
}
