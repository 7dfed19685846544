import java.util.Arrays;
import java.util.NoSuchElementException;

/**
 * Over the hill: a harbour is shut by a chain, so ships are dragged over land by oxen in the night.
 * The document ../shared/DOC.md says what each call promises; its words are used here.
 *
 * <p>Everything an object needs is made with it and used again: no call makes anything but the
 * exception that it throws.
 */
public final class OverTheHill {
    public static final int NONE = -1;

    private static final int MOST_FIELDS = 36;
    private static final int MOST_A_SIDE = 6;
    private static final int MOST_SHIPS = 8;
    private static final int MOST_WEIGHT = 99;
    private static final int MOST_HEIGHT = 9;
    private static final int MOST_OXEN = 999;
    private static final int MOST_DRAG = 999;
    /** The greatest DRAG, and half of it more in rain. */
    private static final int MOST_PULL = 1498;
    private static final int MOST_LATER = 99;
    private static final int MOST_TOLD_PULL = 9999;
    private static final int MOST_PEOPLE = 12;

    private static final int LAND = 0;
    private static final int SEA = 1;
    private static final int HARBOUR = 2;
    private static final int ROCK = 3;

    private static final int HEADINGS = 4;
    private static final int HOURS_A_NIGHT = 10;

    private static final int KINDS = 4;
    private static final int DRUMS = 1;
    private static final int MOON = 2;
    private static final int RAIN = 3;

    /** Why there is no answer: what is asked for can't be. */
    private static final int CANT = -2;
    private static final int DRAGGED_ALREADY = -3;
    private static final int TOO_FEW_OXEN = -4;
    private static final int MISSING_SHEET = -3;
    private static final int OTHER_QUESTION = -100;

    private static final int LONGEST_SHIPS = 55;
    private static final int LONGEST_SIEGE = 60;
    private static final int OVER_HOURS = 60;
    private static final int NEVER_OVER = 61;
    private static final int BAD_LAW = -10000;
    private static final int LAW_OF_NO_SHIP = -20000;

    /** Above the most FIELDS of a way, so that costs tell sums first and FIELDS then. */
    private static final int SUMS_FIRST = 64;
    private static final int FIELDS_ONLY = 0;

    private static final int STORM_MEN = 6;
    private static final int REST_MEN = 9;

    private final Text text = new Text();
    private final Row row = new Row();
    private final Ground ground;
    private final Moment now = new Moment();
    /** The moment ahead of an act, while it is done. */
    private final Moment before = new Moment();
    private final Past past = new Past();
    private final Moment[] kept;
    private final int[] weights = new int[MOST_SHIPS];
    private int oxen = 100;
    private int ear = 50;
    private final Rule rule = new Rule();
    /** A RULE that is read, and is not, or not yet, THE RULE. */
    private final Rule other = new Rule();
    private final Ways ways;
    private final Traces traces = new Traces();
    private final Wall wall = new Wall();
    private final Town bids = new Town();

    public OverTheHill() {
        Ground land = new Ground();
        ground = land;
        ways = new Ways(land);
        kept = new Moment[] {new Moment(), new Moment(), new Moment()};
        for (int i = 0; i < kept.length; i++) {
            kept[i].ships = NONE;
        }
    }

    // ---- land, ships

    public int sign(int v) {
        return text.takeFour(v) ? text.size : NONE;
    }

    public boolean end(int n) {
        return text.cutTo(n);
    }

    public int land() {
        text.open(Text.ROOM);
        boolean good = ground.canRead(text);
        int answer = -1 - text.place;
        if (good) {
            ground.take(text);
            startAnew();
            answer = ground.fields;
        }
        text.empty();
        return answer;
    }

    private void startAnew() {
        now.clear();
        past.clear();
        traces.clear();
        for (int i = 0; i < kept.length; i++) {
            kept[i].ships = NONE;
        }
    }

    public int ships() {
        text.open(LONGEST_SHIPS);
        int lines = text.finished() ? 0 : readLines();
        int answer = lines == NONE ? -1 - text.place : lines;
        if (lines > 0) {
            now.ships += lines;
            past.clear();
        }
        text.empty();
        return answer;
    }

    /** Lines come into slots behind the SHIPS, so that they are nothing till all of them are read. */
    private int readLines() {
        for (int slot = now.ships; slot < MOST_SHIPS; slot++) {
            if (!readLine(slot)) {
                return NONE;
            }
            if (text.finished()) {
                return slot + 1 - now.ships;
            }
            if (!text.takeSign(';')) {
                return NONE;
            }
        }
        return NONE;
    }

    private boolean readLine(int slot) {
        int weight = text.takeNumber(2);
        if (weight == NONE) {
            return false;
        }
        if (weight == 0) {
            text.back();
            return false;
        }
        if (!text.takeSign(',')) {
            return false;
        }
        int field = text.takeTwoDigits();
        if (field == NONE) {
            return false;
        }
        if (!ground.has(field) || ground.kindOf(field) != SEA) {
            text.back();
            return false;
        }
        weights[slot] = weight;
        now.put(slot, field);
        return true;
    }

    public int rule() {
        boolean good = other.read(text);
        int answer = -1 - text.place;
        if (good) {
            rule.copy(other);
            answer = 0;
        }
        text.empty();
        return answer;
    }

    public int field(int field, int what) throws NoSuchElementException {
        if (!ground.has(field)) {
            throw new NoSuchElementException("no such field");
        }
        switch (what) {
            case 0:
                return ground.kindOf(field);
            case 1:
                return ground.heightOf(field);
            case 2:
                return now.planksAt(field);
            case 3:
                return now.shipsAt(field);
            default:
                throw new NoSuchElementException("a field is not asked so");
        }
    }

    public int ship(int ship, int what) throws NoSuchElementException {
        if (!hasShip(ship)) {
            throw new NoSuchElementException("no such ship");
        }
        switch (what) {
            case 0:
                return weights[ship];
            case 1:
                return now.placeOf(ship);
            case 2:
                return now.wasDragged(ship) ? 1 : 0;
            case 3:
                return isOver(ship) ? 1 : 0;
            default:
                throw new NoSuchElementException("a ship is not asked so");
        }
    }

    private boolean hasShip(int ship) {
        return ship >= 0 && ship < now.ships && ship < MOST_SHIPS;
    }

    private boolean isOver(int ship) {
        return ground.kindOf(now.placeOf(ship)) == HARBOUR;
    }

    private int shipsOver() {
        int bits = 0;
        for (int i = 0; i < now.ships; i++) {
            if (isOver(i)) {
                bits |= 1 << i;
            }
        }
        return bits;
    }

    public int pull(int ship, int heading) {
        return pullOf(ship, heading);
    }

    private int pullOf(int ship, int heading) {
        if (!hasShip(ship) || heading < 0 || heading >= HEADINGS) {
            return NONE;
        }
        int from = now.placeOf(ship);
        int there = ground.beside(from, heading);
        if (there == NONE || ground.kindOf(there) == LAND && now.shipsAt(there) != 0) {
            return CANT;
        }
        int rise = ground.heightOf(there) - ground.heightOf(from);
        int drag = rule.dragOf(weights[ship], rise, now.planksAt(there), now.hour);
        return pullBy(drag, kindOf(now.night));
    }

    private static int kindOf(int night) {
        return Math.floorMod(night, KINDS);
    }

    private static int pullBy(int drag, int kind) {
        return kind == RAIN ? drag + drag / 2 : drag;
    }

    private static int noiseOf(int pull, int kind) {
        int tenth = pull / 10;
        if (kind == DRUMS) {
            return tenth / 2;
        }
        return kind == MOON ? tenth * 2 : tenth;
    }

    public int set(int what, int v) {
        if (v < 0 || v > MOST_OXEN) {
            return NONE;
        }
        if (what == 0 && v >= now.used) {
            int were = oxen;
            oxen = v;
            return were;
        }
        if (what == 1) {
            int was = ear;
            ear = v;
            return was;
        }
        return NONE;
    }

    public int sheet(int kind, int n, int f, int step) {
        if (kind < 0 || kind > 3 || n > MOST_SHIPS) {
            return NONE;
        }
        if (kind == 3) {
            weigh(kind, 0, f, step);
            return MISSING_SHEET;
        }
        return n < 0 ? CANT : weigh(kind, n, f, step);
    }

    private int weigh(int kind, int n, int f, int step) {
        int sum = 0;
        for (int i = 0; i < now.ships && i < MOST_SHIPS; i++) {
            weights[i] = i < n ? entryOf(kind, f + i * step) : 1;
            sum += weights[i];
        }
        return sum;
    }

    private static int entryOf(int kind, int v) {
        int entry = v;
        if (kind == 0) {
            entry = (byte) v;
        } else if (kind == 1) {
            entry = (short) v;
        }
        return Math.max(1, Math.min(MOST_WEIGHT, entry));
    }

    // ---- nights

    public int drag(int ship, int heading) {
        before.copy(now);
        return remembered(dragShip(ship, heading));
    }

    public int plank(int field) {
        before.copy(now);
        return remembered(turnPlanks(field));
    }

    public int hours(int n) {
        before.copy(now);
        int answer = remembered(letPass(n, 30));
        if (answer >= 0) {
            row.only(now.alarms - before.alarms);
        }
        return answer;
    }

    /** What was refused changed nothing, so it is nothing to be undone. */
    private int remembered(int answer) {
        if (answer >= 0) {
            past.add(before);
        }
        return answer;
    }

    private int dragShip(int ship, int heading) {
        int pull = pullOf(ship, heading);
        if (pull < 0) {
            return pull;
        }
        if (now.wasDragged(ship)) {
            return DRAGGED_ALREADY;
        }
        if (oxen - now.used < pull) {
            return TOO_FEW_OXEN;
        }
        now.put(ship, ground.beside(now.placeOf(ship), heading));
        now.dragged |= 1 << ship;
        now.used += pull;
        now.noise += noiseOf(pull, kindOf(now.night));
        return oxen - now.used;
    }

    private int turnPlanks(int field) {
        if (!ground.has(field)) {
            return NONE;
        }
        if (ground.kindOf(field) != LAND) {
            return CANT;
        }
        now.planks ^= 1L << field;
        return Long.bitCount(now.planks);
    }

    private int letPass(int n, int most) {
        if (n < 1 || n > most) {
            return NONE;
        }
        for (int i = 0; i < n; i++) {
            now.letHourPass(ear);
        }
        return HOURS_A_NIGHT * now.night + now.hour;
    }

    public int siege() {
        if (!canReadActs()) {
            int answer = -1 - text.place;
            text.empty();
            return answer;
        }
        before.copy(now);
        text.open(LONGEST_SIEGE);
        int done = 0;
        boolean refused = false;
        for (int i = 0; i < LONGEST_SIEGE && !refused && !text.finished(); i++) {
            refused = doAct() < 0;
            done += refused ? 0 : 1;
        }
        text.empty();
        if (done > 0) {
            past.add(before);
        }
        row.both(refused ? 1 : 0, Integer.bitCount(shipsOver()));
        return done;
    }

    private boolean canReadActs() {
        text.open(LONGEST_SIEGE);
        for (int acts = 0; acts < LONGEST_SIEGE && !text.finished(); acts++) {
            boolean good = false;
            if (text.takeSign('d')) {
                good = text.takeDigit(0, 9) != NONE && text.takeDigit(0, HEADINGS - 1) != NONE;
            } else if (text.takeSign('p')) {
                good = text.takeTwoDigits() != NONE;
            } else if (text.takeSign('h')) {
                good = text.takeDigit(1, 9) != NONE;
            }
            if (!good) {
                return false;
            }
        }
        return text.finished();
    }

    private int doAct() {
        if (text.takeSign('d')) {
            int ship = text.takeDigit(0, 9);
            return dragShip(ship, text.takeDigit(0, 9));
        }
        if (text.takeSign('p')) {
            return turnPlanks(text.takeTwoDigits());
        }
        if (text.takeSign('h')) {
            return letPass(text.takeDigit(0, 9), 9);
        }
        return NONE;
    }

    public int undo() {
        return past.stepBack(now) ? past.size : NONE;
    }

    // ---- ways

    public int way(int weight, int from, int to) {
        int wrong = whyNoWay(weight, from, to);
        if (wrong != 0) {
            return wrong;
        }
        startWays(weight);
        int most = ways.leastMost(1L << from, 1L << to);
        if (most == NONE) {
            return CANT;
        }
        ways.measure(to, most, FIELDS_ONLY);
        ways.tell(from, most, FIELDS_ONLY, row);
        return most;
    }

    public int easy(int weight, int from, int to) {
        int wrong = whyNoWay(weight, from, to);
        if (wrong != 0) {
            return wrong;
        }
        startWays(weight);
        ways.measure(to, MOST_PULL, SUMS_FIRST);
        int cost = ways.costFrom(from);
        if (cost == Ways.FAR) {
            return CANT;
        }
        ways.tell(from, MOST_PULL, SUMS_FIRST, row);
        return cost / SUMS_FIRST;
    }

    public int soon(int weight, int from, int to) {
        int wrong = whyNoWay(weight, from, to);
        if (wrong != 0) {
            return wrong;
        }
        startWays(weight);
        ways.measure(to, oxen, FIELDS_ONLY);
        int pulls = ways.costFrom(from);
        return pulls == Ways.FAR ? CANT : pulls;
    }

    private int whyNoWay(int weight, int from, int to) {
        if (!isWeight(weight) || !ground.has(from) || !ground.has(to)) {
            return NONE;
        }
        return ground.kindOf(from) == ROCK || ground.kindOf(to) == ROCK ? CANT : 0;
    }

    private static boolean isWeight(int weight) {
        return weight >= 1 && weight <= MOST_WEIGHT;
    }

    private void startWays(int weight) {
        ways.start(rule, weight, now.planks);
        ways.turnTo(now.hour, kindOf(now.night));
    }

    public int pass() {
        for (int height = 0; height <= MOST_HEIGHT; height++) {
            long low = ground.upTo(height);
            long on = ground.joined(ground.seas, low) & ground.joined(ground.harbours, low);
            if (on != 0) {
                row.only(on);
                return height;
            }
        }
        return CANT;
    }

    public int oxen(int ship) {
        if (!hasShip(ship)) {
            return NONE;
        }
        startWays(weights[ship]);
        long from = 1L << now.placeOf(ship);
        int most = ways.leastMost(from, ground.harbours);
        if (most == NONE) {
            return CANT;
        }
        row.only(firstOf(ways.reached(from, most) & ground.harbours));
        return most;
    }

    private static int firstOf(long bits) {
        for (int i = 0; i < MOST_FIELDS; i++) {
            if ((bits >>> i & 1) != 0) {
                return i;
            }
        }
        return NONE;
    }

    public int can() {
        int bits = 0;
        for (int i = 0; i < now.ships && i < MOST_SHIPS; i++) {
            startWays(weights[i]);
            if ((ways.reached(1L << now.placeOf(i), oxen) & ground.harbours) != 0) {
                bits |= 1 << i;
            }
        }
        row.only(Integer.bitCount(bits));
        return bits;
    }

    public int planks(int weight, int k) {
        if (!isWeight(weight) || k < 0 || k > 2) {
            return NONE;
        }
        long free = ground.lands & ~now.planks;
        startWays(weight);
        if (Long.bitCount(free) < k || !ways.crosses(MOST_PULL)) {
            return CANT;
        }
        ways.startLaying();
        if (k == 0) {
            ways.tryPlanks(now.planks, 0);
        }
        // In the order of the bits' numbers, so that of as good ones the first one tried is the least.
        for (int high = 0; high < ground.fields; high++) {
            for (int low = 0; low <= high; low++) {
                long more = 1L << high | 1L << low;
                if (Long.bitCount(more) == k && (more & ~free) == 0) {
                    ways.tryPlanks(now.planks, more);
                }
            }
        }
        row.only(ways.bestLaid);
        return ways.leastLaid;
    }

    // ---- hours, nights

    public int over(int ship) {
        if (!hasShip(ship)) {
            return NONE;
        }
        int hours = hoursOver(rule, ship);
        return hours == NEVER_OVER ? CANT : hours;
    }

    private int hoursOver(Rule law, int ship) {
        if (!hasShip(ship)) {
            return NEVER_OVER;
        }
        if (isOver(ship)) {
            return 0;
        }
        ways.start(law, weights[ship], now.planks);
        long reached = 1L << now.placeOf(ship);
        for (int gone = 0; gone < OVER_HOURS; gone++) {
            int hour = now.hour + gone;
            ways.turnTo(hour % HOURS_A_NIGHT, kindOf(now.night + hour / HOURS_A_NIGHT));
            reached |= ways.oneDragFrom(reached, reached, oxen);
            if ((reached & ground.harbours) != 0) {
                return gone + 1;
            }
        }
        return NEVER_OVER;
    }

    public int kind(int n, int v) {
        if (n < 0 || n > MOST_LATER || v < 0 || v > MOST_TOLD_PULL) {
            return NONE;
        }
        int kind = kindOf(now.night + n);
        row.only(noiseOf(v, kind));
        return kind;
    }

    public int quiet(int n) {
        if (n < 0 || n > MOST_LATER) {
            return NONE;
        }
        int kind = kindOf(now.night + n);
        int tenths = ear;
        if (kind == DRUMS) {
            tenths = ear * 2 + 1;
        } else if (kind == MOON) {
            tenths = ear / 2;
        }
        return Math.min(MOST_TOLD_PULL, tenths * 10 + 9);
    }

    public int night(int weight, int from, int to) {
        int wrong = whyNoWay(weight, from, to);
        if (wrong != 0) {
            return wrong;
        }
        ways.start(rule, weight, now.planks);
        int best = NONE;
        int least = 0;
        for (int later = 0; later < KINDS; later++) {
            int kind = kindOf(now.night + later);
            ways.turnTo(0, kind);
            ways.measure(to, MOST_PULL, SUMS_FIRST);
            if (ways.costFrom(from) == Ways.FAR) {
                return CANT;
            }
            int noise = ways.noiseFrom(from, kind);
            if (best == NONE || noise < least) {
                best = later;
                least = noise;
            }
        }
        row.only(least);
        return best;
    }

    // ---- walls

    public int walls(int m) {
        int answer = OTHER_QUESTION;
        if (m >= 0 && m <= 99) {
            answer = wall.read(text) ? wall.man(m, row) : -1 - text.place;
        }
        text.empty();
        return answer;
    }

    public int storm(int a, int b) {
        if (a < 0 || b < 0 || a > STORM_MEN || b > STORM_MEN - a) {
            return NONE;
        }
        int best = 0;
        int most = -4;
        int first = 0;
        int second = 0;
        for (int x = 0; x <= STORM_MEN; x++) {
            for (int y = 0; y <= STORM_MEN - x; y++) {
                int more = wonBy(x, a) + wonBy(y, b) + wonBy(a + b, x + y);
                if (more > most) {
                    most = more;
                    best = 0;
                    first = x;
                    second = y;
                }
                if (more == most) {
                    best++;
                }
            }
        }
        row.both(first, second);
        row.add(most);
        return best;
    }

    private static int wonBy(int stormers, int defenders) {
        if (stormers == defenders) {
            return 0;
        }
        return stormers > defenders ? 1 : -1;
    }

    // ---- the town, raids

    public int town(int v, int k) {
        if (v < 1 || v > Town.MOST_WORTH || k < 1 || k > 20) {
            return NONE;
        }
        bids.settle(v, k);
        row.both(bids.theirs[0], bids.first);
        return bids.mine[0];
    }

    public int secret(int n, int p) {
        if (n < 0 || n > MOST_PEOPLE || p < 0 || p > 10) {
            return NONE;
        }
        long upper = power(10 - p, n);
        long lower = power(10, n);
        long divisor = commonDivisor(upper, lower);
        if (divisor > 0) {
            upper /= divisor;
            lower /= divisor;
        }
        row.both(upper, lower);
        return 0;
    }

    private static long power(int base, int n) {
        long product = 1;
        for (int i = 0; i < n; i++) {
            product *= base;
        }
        return product;
    }

    /** Euclid's steps: of numbers of 64 bits fewer than a hundred are needed. */
    private static long commonDivisor(long a, long b) {
        long greater = a;
        long less = b;
        for (int i = 0; i < 100 && less != 0; i++) {
            long rest = greater % less;
            greater = less;
            less = rest;
        }
        return greater;
    }

    public int told(int p, int v) {
        if (p < 0 || p > 10 || v < 0 || v > 100) {
            return NONE;
        }
        for (int n = MOST_PEOPLE; n >= 0; n--) {
            if (100 * power(10 - p, n) >= v * power(10, n)) {
                return n;
            }
        }
        return CANT;
    }

    // ---- which ship it was

    public int trace(int v, int is) {
        if (!isWeight(v) || is < 0 || is > 1 || traces.size >= Traces.ROOM) {
            return NONE;
        }
        traces.add(v, is == 1);
        return traces.size;
    }

    public int forget() {
        int were = traces.size;
        traces.clear();
        return were;
    }

    public int fits() {
        int bits = fitting();
        row.only(Integer.bitCount(bits));
        return bits;
    }

    private int fitting() {
        int bits = 0;
        for (int i = 0; i < now.ships && i < MOST_SHIPS; i++) {
            if (traces.allow(weights[i])) {
                bits |= 1 << i;
            }
        }
        return bits;
    }

    public int ask() {
        int bits = fitting();
        if (bits == 0) {
            return CANT;
        }
        int best = NONE;
        int fewest = 0;
        for (int v = 1; v <= MOST_WEIGHT; v++) {
            int heavy = heavyAmong(bits, v);
            int left = Math.max(heavy, Integer.bitCount(bits) - heavy);
            if (best == NONE || left < fewest) {
                best = v;
                fewest = left;
            }
        }
        row.only(fewest);
        return best;
    }

    private int heavyAmong(int bits, int v) {
        int heavy = 0;
        for (int i = 0; i < MOST_SHIPS; i++) {
            if ((bits >>> i & 1) != 0 && weights[i] >= v) {
                heavy++;
            }
        }
        return heavy;
    }

    // ---- laws

    public int law(int ship) {
        int answer = LAW_OF_NO_SHIP;
        if (hasShip(ship)) {
            boolean good = other.read(text);
            answer = BAD_LAW - text.place;
            if (good) {
                int byOther = hoursOver(other, ship);
                int byRule = hoursOver(rule, ship);
                row.both(byOther, byRule);
                answer = byOther - byRule;
            }
        }
        text.empty();
        return answer;
    }

    // ---- rests

    public int rests(int v, int c) {
        if (v < 1 || v > 99 || c < 0 || c > 20) {
            return NONE;
        }
        int pairs = 0;
        row.clear();
        for (int x = 0; x <= REST_MEN; x++) {
            for (int y = 0; y <= REST_MEN; y++) {
                if (isAtRest(x, y, v, c)) {
                    if (pairs == 0) {
                        row.both(x, y);
                    }
                    pairs++;
                }
            }
        }
        return pairs;
    }

    private static boolean isAtRest(int x, int y, int v, int c) {
        int wall = wallHas(x, y, v, c);
        int stormers = stormersHave(x, y, v, c);
        for (int z = 0; z <= REST_MEN; z++) {
            if (wallHas(z, y, v, c) > wall || stormersHave(x, z, v, c) > stormers) {
                return false;
            }
        }
        return true;
    }

    private static int wallHas(int x, int y, int v, int c) {
        return (y > x ? 0 : v) - c * x;
    }

    private static int stormersHave(int x, int y, int v, int c) {
        return (y > x ? v : 0) - c * y;
    }

    // ---- sieges

    public int sieges(int seed, int n) {
        if (now.ships < 1) {
            return CANT;
        }
        if (n < 1 || n > 99) {
            return NONE;
        }
        before.copy(now);
        int dragged = 0;
        int drawn = seed;
        for (int time = 1; time <= n; time++) {
            drawn = drawnBehind(drawn);
            int ship = drawOf(drawn, now.ships);
            drawn = drawnBehind(drawn);
            if (dragShip(ship, drawOf(drawn, HEADINGS)) >= 0) {
                dragged++;
            }
            if (time % 3 == 0) {
                now.letHourPass(ear);
            }
        }
        row.both(Integer.bitCount(shipsOver()), now.alarms - before.alarms);
        now.copy(before);
        return dragged;
    }

    private static int drawnBehind(int drawn) {
        return drawn * 1103515245 + 12345;
    }

    private static int drawOf(int drawn, int n) {
        return n > 0 ? (drawn >>> 16) % n : 0;
    }

    // ---- kept

    public boolean keep(int i) {
        if (i < 0 || i >= kept.length) {
            return false;
        }
        kept[i].copy(now);
        return true;
    }

    public boolean again(int i) {
        // SHIPS only become more, so as many as were kept are the same ones.
        if (i < 0 || i >= kept.length || kept[i].ships != now.ships) {
            return false;
        }
        now.copy(kept[i]);
        past.clear();
        return true;
    }

    public int count(int what) {
        switch (what) {
            case 0:
                return ground.rows;
            case 1:
                return ground.columns;
            case 2:
                return now.ships;
            case 3:
                return oxen;
            case 4:
                return now.used;
            case 5:
                return now.night;
            case 6:
                return now.hour;
            case 7:
                return ear;
            case 8:
                return now.noise;
            case 9:
                return now.alarms;
            case 10:
                return Long.bitCount(now.planks);
            case 11:
                return shipsOver();
            case 12:
                return traces.size;
            case 13:
                return past.size;
            case 14:
                return row.size;
            case 15:
                return text.size;
            default:
                return OTHER_QUESTION;
        }
    }

    public long row(int i) throws NoSuchElementException {
        if (!row.has(i)) {
            throw new NoSuchElementException("the row has no such number");
        }
        return row.at(i);
    }

    /** THE TEXT, and a place in it up to which it was read: at a fault it is the fault's place. */
    private static final class Text {
        static final int ROOM = 80;
        static final int END = -1;

        private final char[] signs = new char[ROOM];
        int size;
        int place;
        /** Signs from here on are not looked at, as if the text ended here. */
        private int limit;

        boolean takeFour(int v) {
            if (size < 0 || size > ROOM - 4) {
                return false;
            }
            for (int i = 0; i < 4; i++) {
                signs[size + i] = (char) (v >>> 24 - 8 * i & 255);
            }
            size += 4;
            return true;
        }

        boolean cutTo(int n) {
            if (n < 0 || n > size) {
                return false;
            }
            size = n;
            return true;
        }

        void empty() {
            size = 0;
        }

        void open(int most) {
            limit = Math.min(size, most);
            place = 0;
        }

        /** False beyond the limit too: a text that goes on there is too long. */
        boolean finished() {
            return place == size;
        }

        int peek() {
            return place >= 0 && place < limit && place < ROOM ? signs[place] : END;
        }

        void step() {
            place++;
        }

        void back() {
            place--;
        }

        boolean takeSign(char wanted) {
            if (peek() != wanted) {
                return false;
            }
            step();
            return true;
        }

        int takeDigit(int low, int high) {
            int digit = peek() - '0';
            if (digit < low || digit > high) {
                return NONE;
            }
            step();
            return digit;
        }

        int takeNumber(int mostDigits) {
            int number = NONE;
            for (int i = 0; i < mostDigits; i++) {
                int digit = takeDigit(0, 9);
                if (digit == NONE) {
                    return number;
                }
                number = i == 0 ? digit : number * 10 + digit;
            }
            return number;
        }

        int takeTwoDigits() {
            int tens = takeDigit(0, 9);
            int ones = tens == NONE ? NONE : takeDigit(0, 9);
            return ones == NONE ? NONE : tens * 10 + ones;
        }
    }

    /** The ROW: a way over all FIELDS is the longest one. */
    private static final class Row {
        private final long[] numbers = new long[MOST_FIELDS];
        int size;

        void clear() {
            size = 0;
        }

        void add(long number) {
            if (size >= 0 && size < MOST_FIELDS) {
                numbers[size] = number;
                size++;
            }
        }

        void only(long number) {
            clear();
            add(number);
        }

        void both(long first, long second) {
            clear();
            add(first);
            add(second);
        }

        boolean has(int i) {
            return i >= 0 && i < size && i < MOST_FIELDS;
        }

        long at(int i) {
            return has(i) ? numbers[i] : 0;
        }
    }

    /** LAND as it was told; it stays so till it is told anew. */
    private static final class Ground {
        int rows = 1;
        int columns = 1;
        int fields = 1;
        private final int[] kinds = new int[MOST_FIELDS];
        private final int[] heights = new int[MOST_FIELDS];
        /** By FIELD and HEADING the FIELD there, or NONE if that is outside or ROCK. */
        private final int[] neighbours = new int[MOST_FIELDS * HEADINGS];
        long lands;
        long seas;
        long harbours;

        Ground() {
            kinds[0] = SEA;
            seas = 1;
            Arrays.fill(neighbours, NONE);
        }

        boolean has(int field) {
            return field >= 0 && field < fields && field < MOST_FIELDS;
        }

        int kindOf(int field) {
            return has(field) ? kinds[field] : ROCK;
        }

        int heightOf(int field) {
            return field >= 0 && field < MOST_FIELDS ? heights[field] : 0;
        }

        int beside(int field, int heading) {
            if (!has(field) || heading < 0 || heading >= HEADINGS) {
                return NONE;
            }
            return neighbours[field * HEADINGS + heading];
        }

        boolean canRead(Text text) {
            int width = 0;
            for (int r = 0; r < MOST_A_SIDE; r++) {
                int read = fieldsAhead(text, r == 0 ? MOST_A_SIDE : width);
                if (read == 0 || r > 0 && read < width) {
                    return false;
                }
                width = read;
                if (text.finished()) {
                    return true;
                }
                if (r == MOST_A_SIDE - 1 || !text.takeSign('/')) {
                    return false;
                }
            }
            return false;
        }

        private static int fieldsAhead(Text text, int most) {
            for (int read = 0; read < most; read++) {
                if (kindTold(text.peek()) == NONE) {
                    return read;
                }
                text.step();
            }
            return most;
        }

        private static int kindTold(int sign) {
            switch (sign) {
                case '~':
                    return SEA;
                case '*':
                    return HARBOUR;
                case '#':
                    return ROCK;
                default:
                    return sign >= '0' && sign <= '9' ? LAND : NONE;
            }
        }

        /** Takes a text that canRead() has found good. */
        void take(Text text) {
            fields = 0;
            rows = 1;
            lands = 0;
            seas = 0;
            harbours = 0;
            text.open(Text.ROOM);
            for (int i = 0; i < Text.ROOM && !text.finished(); i++) {
                if (text.peek() == '/') {
                    rows++;
                } else {
                    takeField(text.peek());
                }
                text.step();
            }
            columns = rows > 0 ? fields / rows : fields;
            for (int field = 0; field < fields; field++) {
                link(field);
            }
        }

        private void takeField(int sign) {
            if (fields < 0 || fields >= MOST_FIELDS) {
                return;
            }
            int kind = kindTold(sign);
            kinds[fields] = kind;
            heights[fields] = kind == LAND ? sign - '0' : 0;
            if (kind == LAND) {
                lands |= 1L << fields;
            } else if (kind == SEA) {
                seas |= 1L << fields;
            } else if (kind == HARBOUR) {
                harbours |= 1L << fields;
            }
            fields++;
        }

        private void link(int field) {
            if (!has(field) || columns < 1) {
                return;
            }
            int column = field % columns;
            int base = field * HEADINGS;
            neighbours[base] = openField(field - columns);
            neighbours[base + 1] = column + 1 < columns ? openField(field + 1) : NONE;
            neighbours[base + 2] = openField(field + columns);
            neighbours[base + 3] = column > 0 ? openField(field - 1) : NONE;
        }

        private int openField(int field) {
            return kindOf(field) == ROCK ? NONE : field;
        }

        /** FIELDS of a HEIGHT and less, ROCK left out. */
        long upTo(int height) {
            long low = seas | harbours;
            for (int field = 0; field < fields; field++) {
                if (kindOf(field) == LAND && heightOf(field) <= height) {
                    low |= 1L << field;
                }
            }
            return low;
        }

        /** FIELDS to which ways lead from some of these over such as are allowed. */
        long joined(long from, long allowed) {
            long seen = from;
            long fresh = from;
            for (int i = 0; i < MOST_FIELDS && fresh != 0; i++) {
                fresh = besideAny(fresh) & allowed & ~seen;
                seen |= fresh;
            }
            return seen;
        }

        private long besideAny(long from) {
            long bits = 0;
            for (int field = 0; field < fields; field++) {
                if ((from >>> field & 1) == 0) {
                    continue;
                }
                for (int heading = 0; heading < HEADINGS; heading++) {
                    int there = beside(field, heading);
                    if (there != NONE) {
                        bits |= 1L << there;
                    }
                }
            }
            return bits;
        }
    }

    /** What acts change: all that can be undone, kept and had again. */
    private static final class Moment {
        private final int[] places = new int[MOST_SHIPS];
        /** How many; NONE in a number under which nothing is kept. */
        int ships;
        int dragged;
        long planks;
        int used;
        int night;
        int hour;
        int noise;
        int alarms;

        void clear() {
            ships = 0;
            dragged = 0;
            planks = 0;
            used = 0;
            night = 0;
            hour = 0;
            noise = 0;
            alarms = 0;
        }

        void copy(Moment from) {
            System.arraycopy(from.places, 0, places, 0, MOST_SHIPS);
            ships = from.ships;
            dragged = from.dragged;
            planks = from.planks;
            used = from.used;
            night = from.night;
            hour = from.hour;
            noise = from.noise;
            alarms = from.alarms;
        }

        void put(int ship, int field) {
            if (ship >= 0 && ship < MOST_SHIPS) {
                places[ship] = field;
            }
        }

        int placeOf(int ship) {
            return ship >= 0 && ship < MOST_SHIPS ? places[ship] : NONE;
        }

        boolean wasDragged(int ship) {
            return (dragged >>> ship & 1) != 0;
        }

        int planksAt(int field) {
            return (int) (planks >>> field & 1);
        }

        int shipsAt(int field) {
            int bits = 0;
            for (int i = 0; i < ships && i < MOST_SHIPS; i++) {
                if (places[i] == field) {
                    bits |= 1 << i;
                }
            }
            return bits;
        }

        void letHourPass(int ear) {
            if (noise > ear) {
                alarms++;
            }
            used = 0;
            noise = 0;
            dragged = 0;
            hour++;
            if (hour == HOURS_A_NIGHT) {
                hour = 0;
                night++;
            }
        }
    }

    /** The latest moments ahead of acts, in a ring. */
    private static final class Past {
        static final int ROOM = 15;

        private final Moment[] moments = new Moment[ROOM];
        private int first;
        int size;

        Past() {
            for (int i = 0; i < ROOM; i++) {
                moments[i] = new Moment();
            }
        }

        void clear() {
            size = 0;
        }

        void add(Moment moment) {
            moments[slot()].copy(moment);
            if (size < ROOM) {
                size++;
            } else {
                first = (first + 1) % ROOM;
            }
        }

        boolean stepBack(Moment into) {
            if (size < 1) {
                return false;
            }
            size--;
            into.copy(moments[slot()]);
            return true;
        }

        /** Behind the latest moment: with a full ring the oldest one's. */
        private int slot() {
            return Math.floorMod(first + size, ROOM);
        }
    }

    /** A RULE, as steps of a machine with a stack, so that it is read once and worked out often. */
    private static final class Rule {
        static final int LONGEST = 40;
        static final int DEEPEST = 4;
        /** What binds least is the lowest level. */
        static final int COMPARED = 0;
        static final int SUMS = 1;
        static final int PRODUCTS = 2;
        /** Steps below this are numbers to be put, the others signs above it. */
        static final int SIGN = 1000;
        static final char NEGATE = '~';

        private final int[] steps = new int[LONGEST];
        /** 0: no RULE is told. */
        int size;
        private final int[] stack = new int[LONGEST];
        private int top;

        void copy(Rule from) {
            System.arraycopy(from.steps, 0, steps, 0, LONGEST);
            size = from.size;
        }

        boolean read(Text text) {
            size = 0;
            text.open(LONGEST);
            return text.finished() || readJoined(text, COMPARED, 0) && text.finished();
        }

        /** Things joined by signs of a level, each thing being such as the levels above it join. */
        private boolean readJoined(Text text, int level, int depth) {
            if (level > PRODUCTS) {
                return readFactor(text, depth);
            }
            if (!readJoined(text, level + 1, depth)) {
                return false;
            }
            int most = level == COMPARED ? 1 : LONGEST;
            for (int i = 0; i < most && levelOf(text.peek()) == level; i++) {
                int sign = text.peek();
                text.step();
                if (!readJoined(text, level + 1, depth) || !addStep(SIGN + sign)) {
                    return false;
                }
            }
            return true;
        }

        private static int levelOf(int sign) {
            switch (sign) {
                case '<':
                case '>':
                case '=':
                    return COMPARED;
                case '+':
                case '-':
                    return SUMS;
                case '*':
                case '/':
                    return PRODUCTS;
                default:
                    return NONE;
            }
        }

        private boolean readFactor(Text text, int depth) {
            boolean negated = false;
            for (int i = 0; i < LONGEST && text.takeSign('-'); i++) {
                negated = !negated;
            }
            return readThing(text, depth) && (!negated || addStep(SIGN + NEGATE));
        }

        private boolean readThing(Text text, int depth) {
            int sign = text.peek();
            if (sign == '(') {
                if (depth >= DEEPEST) {
                    return false;
                }
                text.step();
                return readJoined(text, COMPARED, depth + 1) && text.takeSign(')');
            }
            if (sign == 'w' || sign == 'u' || sign == 'v' || sign == 'g' || sign == 'h') {
                text.step();
                return addStep(SIGN + sign);
            }
            int number = text.takeNumber(3);
            return number != NONE && addStep(number);
        }

        /** There is room for each step, as each one has a sign of its own. */
        private boolean addStep(int step) {
            if (size < 0 || size >= LONGEST) {
                return false;
            }
            steps[size] = step;
            size++;
            return true;
        }

        /** DRAG of a weight, as it is dragged up by a rise (below 0: down). */
        int dragOf(int weight, int rise, int planks, int hour) {
            int up = Math.max(0, rise);
            int drag = size == 0
                    ? weight * (1 + up) / (planks == 1 ? 3 : 1) + 1
                    : worked(weight, rise, planks, hour);
            return Math.max(0, Math.min(MOST_DRAG, drag));
        }

        private int worked(int weight, int rise, int planks, int hour) {
            top = 0;
            for (int i = 0; i < size && i < LONGEST; i++) {
                int step = steps[i];
                switch (step - SIGN) {
                    case 'w':
                        push(weight);
                        break;
                    case 'u':
                        push(Math.max(0, rise));
                        break;
                    case 'v':
                        push(Math.max(0, -rise));
                        break;
                    case 'g':
                        push(planks);
                        break;
                    case 'h':
                        push(hour);
                        break;
                    case NEGATE:
                        push(-pop());
                        break;
                    default:
                        push(step < SIGN ? step : joined(step - SIGN, pop(), pop()));
                        break;
                }
            }
            return pop();
        }

        private static int joined(int sign, int right, int left) {
            switch (sign) {
                case '+':
                    return left + right;
                case '-':
                    return left - right;
                case '*':
                    return left * right;
                case '/':
                    return right == 0 ? 0 : left / right;
                case '<':
                    return left < right ? 1 : 0;
                case '>':
                    return left > right ? 1 : 0;
                default:
                    return left == right ? 1 : 0;
            }
        }

        private void push(int number) {
            if (top >= 0 && top < LONGEST) {
                stack[top] = number;
                top++;
            }
        }

        private int pop() {
            if (top < 1 || top > LONGEST) {
                return 0;
            }
            top--;
            return stack[top];
        }
    }

    /** PULLS of a weight by a RULE: they depend on little, so they are worked out once for each HOUR asked for. */
    private static final class Pulls {
        static final int RISES = 2 * MOST_HEIGHT + 1;
        static final int AN_HOUR = RISES * 2;

        private final int[] drags = new int[AN_HOUR * HOURS_A_NIGHT];
        private int hoursReady;
        private int base;
        private int kind;

        void start() {
            hoursReady = 0;
        }

        void turnTo(int hour, int kindOfNight, Rule rule, int weight) {
            kind = kindOfNight;
            if (hour < 0 || hour >= HOURS_A_NIGHT) {
                return;
            }
            base = hour * AN_HOUR;
            if ((hoursReady >>> hour & 1) == 0) {
                hoursReady |= 1 << hour;
                for (int i = 0; i < AN_HOUR; i++) {
                    drags[base + i] = rule.dragOf(weight, i / 2 - MOST_HEIGHT, i % 2, hour);
                }
            }
        }

        int of(int rise, int planks) {
            int i = (rise + MOST_HEIGHT) * 2 + planks;
            return i >= 0 && i < AN_HOUR ? pullBy(drags[base + i], kind) : MOST_PULL;
        }
    }

    /** Ways of a weight over the ground, as if no SHIPS were there. */
    private static final class Ways {
        /** Above the cost of any way. */
        static final int FAR = 1 << 30;

        private final Ground ground;
        private final Pulls pulls = new Pulls();
        private Rule rule;
        private int weight;
        long planks;
        /** From each FIELD to the one that measure() was told. */
        private final int[] costs = new int[MOST_FIELDS];
        int leastLaid;
        long bestLaid;

        Ways(Ground land) {
            ground = land;
        }

        void start(Rule law, int ofWeight, long withPlanks) {
            rule = law;
            weight = ofWeight;
            planks = withPlanks;
            pulls.start();
        }

        void turnTo(int hour, int kind) {
            if (rule != null) {
                pulls.turnTo(hour, kind, rule, weight);
            }
        }

        private int pullTo(int from, int to) {
            return pulls.of(ground.heightOf(to) - ground.heightOf(from), (int) (planks >>> to & 1));
        }

        /** FIELDS but those left out to which a PULL of a limit at most leads from some of these. */
        long oneDragFrom(long from, long leftOut, int limit) {
            long bits = 0;
            for (int field = 0; field < ground.fields; field++) {
                if ((from >>> field & 1) == 0) {
                    continue;
                }
                for (int heading = 0; heading < HEADINGS; heading++) {
                    int there = ground.beside(field, heading);
                    if (there != NONE && (leftOut >>> there & 1) == 0 && pullTo(field, there) <= limit) {
                        bits |= 1L << there;
                    }
                }
            }
            return bits;
        }

        /** FIELDS to which ways lead from some of these, themselves too, with no PULL above a limit. */
        long reached(long from, int limit) {
            long seen = from;
            long fresh = from;
            for (int i = 0; i < MOST_FIELDS && fresh != 0; i++) {
                fresh = oneDragFrom(fresh, seen, limit);
                seen |= fresh;
            }
            return seen;
        }

        /** The greatest PULL of the way from some to some on which it is the least, or NONE. */
        int leastMost(long from, long to) {
            if ((reached(from, MOST_PULL) & to) == 0) {
                return NONE;
            }
            int low = 0;
            int high = MOST_PULL;
            // Each round halves what is left of MOST_PULL: a dozen are enough.
            for (int i = 0; i < 12 && low < high; i++) {
                int middle = (low + high) / 2;
                if ((reached(from, middle) & to) == 0) {
                    low = middle + 1;
                } else {
                    high = middle;
                }
            }
            return high;
        }

        boolean crosses(int limit) {
            return (reached(ground.seas, limit) & ground.harbours) != 0;
        }

        void startLaying() {
            leastLaid = MOST_PULL + 1;
            bestLaid = 0;
        }

        void tryPlanks(long laid, long more) {
            planks = laid | more;
            if (crosses(leastLaid - 1)) {
                leastLaid = leastMost(ground.seas, ground.harbours);
                bestLaid = more;
            }
        }

        /** A PULL above the limit is none; a cost is a scale times the PULLS, and 1 for each. */
        void measure(int to, int limit, int scale) {
            Arrays.fill(costs, FAR);
            if (!ground.has(to)) {
                return;
            }
            costs[to] = 0;
            long left = ~0L;
            for (int i = 0; i < MOST_FIELDS; i++) {
                int field = nearest(left);
                if (field == NONE) {
                    return;
                }
                left &= ~(1L << field);
                measureAround(field, limit, scale);
            }
        }

        private int nearest(long left) {
            int best = NONE;
            int least = FAR;
            for (int field = 0; field < ground.fields; field++) {
                if ((left >>> field & 1) != 0 && costs[field] < least) {
                    best = field;
                    least = costs[field];
                }
            }
            return best;
        }

        private void measureAround(int field, int limit, int scale) {
            for (int heading = 0; heading < HEADINGS; heading++) {
                int from = ground.beside(field, heading);
                if (from == NONE) {
                    continue;
                }
                int pull = pullTo(from, field);
                int cost = costs[field] + pull * scale + 1;
                if (pull <= limit && cost < costs[from]) {
                    costs[from] = cost;
                }
            }
        }

        int costFrom(int field) {
            return ground.has(field) ? costs[field] : FAR;
        }

        /** Tells the way that was measured: each next FIELD is the least, so the row is. */
        void tell(int from, int limit, int scale, Row row) {
            row.only(from);
            int field = nextOn(from, limit, scale);
            for (int i = 0; i < MOST_FIELDS && field != NONE; i++) {
                row.add(field);
                field = nextOn(field, limit, scale);
            }
        }

        /** NOISE on the way that was measured by sums. */
        int noiseFrom(int from, int kind) {
            int noise = 0;
            int field = from;
            for (int i = 0; i < MOST_FIELDS; i++) {
                int next = nextOn(field, MOST_PULL, SUMS_FIRST);
                if (next == NONE) {
                    return noise;
                }
                noise += noiseOf(pullTo(field, next), kind);
                field = next;
            }
            return noise;
        }

        private int nextOn(int field, int limit, int scale) {
            int cost = costFrom(field);
            int best = NONE;
            for (int heading = 0; heading < HEADINGS; heading++) {
                int there = ground.beside(field, heading);
                if (there == NONE || costs[there] == FAR) {
                    continue;
                }
                int pull = pullTo(field, there);
                boolean onIt = pull <= limit && costs[there] + pull * scale + 1 == cost;
                if (onIt && (best == NONE || there < best)) {
                    best = there;
                }
            }
            return best;
        }
    }

    /** Traces: each one only narrows the weights that fit, so these are all that is held of them. */
    private static final class Traces {
        static final int ROOM = 12;

        int size;
        private int least = 1;
        private int most = MOST_WEIGHT;

        void clear() {
            size = 0;
            least = 1;
            most = MOST_WEIGHT;
        }

        void add(int weight, boolean orMore) {
            size++;
            if (orMore) {
                least = Math.max(least, weight);
            } else {
                most = Math.min(most, weight - 1);
            }
        }

        boolean allow(int weight) {
            return weight >= least && weight <= most;
        }
    }

    /** Stretches of a wall by YARDS. */
    private static final class Wall {
        static final int MOST_STRETCHES = 4;

        private final int[] yards = new int[MOST_STRETCHES];
        private int stretches;

        boolean read(Text text) {
            stretches = 0;
            text.open(Text.ROOM);
            for (int i = 0; i < MOST_STRETCHES; i++) {
                int told = text.takeDigit(1, 9);
                if (told == NONE) {
                    break;
                }
                yards[i] = told;
                stretches++;
            }
            return stretches > 0 && text.finished();
        }

        /** The least row: each stretch has no more than it needs, the last one all that are left. */
        int man(int men, Row row) {
            int share = bestShare(men);
            int left = men;
            row.clear();
            for (int i = 0; i < stretches; i++) {
                int here = i == stretches - 1 ? left : menFor(i, share);
                row.add(here);
                left -= here;
            }
            return share;
        }

        private int bestShare(int men) {
            int low = 0;
            int high = men * 100;
            // Each round halves what is left of 9900: fourteen are enough.
            for (int i = 0; i < 14 && low < high; i++) {
                int middle = (low + high + 1) / 2;
                if (menForAll(middle) <= men) {
                    low = middle;
                } else {
                    high = middle - 1;
                }
            }
            return low;
        }

        private int menForAll(int share) {
            int men = 0;
            for (int i = 0; i < stretches; i++) {
                men += menFor(i, share);
            }
            return men;
        }

        /** So many that 100 times them by the YARDS is the share or more. */
        private int menFor(int i, int share) {
            return i >= 0 && i < MOST_STRETCHES ? (share * yards[i] + 99) / 100 : 0;
        }
    }

    /** Offers for a town, from the last turn back: by what was offered last, what who is at turn has, and the other one. */
    private static final class Town {
        static final int MOST_WORTH = 60;

        final int[] mine = new int[MOST_WORTH + 1];
        final int[] theirs = new int[MOST_WORTH + 1];
        int first;

        void settle(int worth, int turns) {
            for (int last = 0; last <= worth && last <= MOST_WORTH; last++) {
                mine[last] = 0;
                theirs[last] = leftOf(worth, last);
            }
            for (int i = 0; i < turns; i++) {
                // Upwards: an offer looks at higher ones alone, and those are still the next turn's.
                for (int last = 0; last <= worth && last <= MOST_WORTH; last++) {
                    takeTurn(worth, last);
                }
            }
        }

        private void takeTurn(int worth, int last) {
            int most = 0;
            int others = leftOf(worth, last);
            int chosen = 0;
            for (int more = 1; more <= 3 && last + more <= worth && last + more <= MOST_WORTH; more++) {
                if (theirs[last + more] > most) {
                    most = theirs[last + more];
                    others = mine[last + more];
                    chosen = more;
                }
            }
            mine[last] = most;
            theirs[last] = others;
            if (last == 0) {
                first = chosen;
            }
        }

        private static int leftOf(int worth, int offered) {
            return offered > 0 ? worth - offered : 0;
        }
    }
}
