import java.util.ArrayList;
import java.util.Arrays;
import java.util.List;
import java.util.TreeSet;

/**
 * The document once more, in another way: texts by signs and states, ways by trying all of them (on small
 * land; on larger land by mending ways till none is mended). It is slow, and is there to be compared with
 * OverTheHill.
 */
final class PlainHill {
    /** Stands for NoSuchElementException. */
    static final long THROWN = Long.MIN_VALUE;
    private static final long FAR = Long.MAX_VALUE / 4;

    private static final class State {
        TreeSet<Integer> planks = new TreeSet<>();
        List<Integer> places = new ArrayList<>();
        TreeSet<Integer> dragged = new TreeSet<>();
        long used, night, hour, noise, alarms;

        State copy() {
            State s = new State();
            s.planks.addAll(planks);
            s.places.addAll(places);
            s.dragged.addAll(dragged);
            s.used = used;
            s.night = night;
            s.hour = hour;
            s.noise = noise;
            s.alarms = alarms;
            return s;
        }
    }

    private String text = "";
    private List<Long> row = new ArrayList<>();
    private String[] land = {"~"};
    private State now = new State();
    private List<Integer> weights = new ArrayList<>();
    private long oxen = 100;
    private long ear = 50;
    private String rule = "";
    private List<State> past = new ArrayList<>();
    private State[] kept = new State[3];
    private List<int[]> traces = new ArrayList<>();

    private void tell(long... numbers) {
        row = new ArrayList<>();
        for (long n : numbers) {
            row.add(n);
        }
    }

    private String taken() {
        String t = text;
        text = "";
        return t;
    }

    // ---- fields

    private int columns() {
        return land[0].length();
    }

    private int fields() {
        return land.length * columns();
    }

    private boolean has(int f) {
        return f >= 0 && f < fields();
    }

    private char at(int f) {
        return land[f / columns()].charAt(f % columns());
    }

    private int height(int f) {
        return Character.isDigit(at(f)) ? at(f) - '0' : 0;
    }

    private boolean isLand(int f) {
        return Character.isDigit(at(f));
    }

    private int beside(int f, int heading) {
        int r = f / columns() + new int[] {-1, 0, 1, 0}[heading];
        int c = f % columns() + new int[] {0, 1, 0, -1}[heading];
        if (r < 0 || c < 0 || r >= land.length || c >= columns() || land[r].charAt(c) == '#') {
            return -1;
        }
        return r * columns() + c;
    }

    // ---- texts

    long sign(int v) {
        if (text.length() + 4 > 80) {
            return -1;
        }
        for (int s = 24; s >= 0; s -= 8) {
            text += (char) (v >>> s & 255);
        }
        return text.length();
    }

    long end(int n) {
        if (n < 0 || n > text.length()) {
            return 0;
        }
        text = text.substring(0, n);
        return 1;
    }

    long land() {
        String t = taken();
        int r = 0, c = 0, width = 6;
        for (int p = 0; p <= t.length(); p++) {
            boolean ends = p == t.length();
            if (ends || t.charAt(p) == '/') {
                if (c == 0 || r > 0 && c != width || !ends && r == 5) {
                    return -1 - p;
                }
                width = c;
                c = 0;
                r++;
            } else {
                if ("0123456789~*#".indexOf(t.charAt(p)) < 0 || c == width) {
                    return -1 - p;
                }
                c++;
            }
        }
        land = t.split("/");
        now = new State();
        weights = new ArrayList<>();
        past = new ArrayList<>();
        kept = new State[3];
        traces = new ArrayList<>();
        return fields();
    }

    long ships() {
        String t = taken();
        if (t.isEmpty()) {
            return 0;
        }
        List<Integer> w = new ArrayList<>();
        List<Integer> f = new ArrayList<>();
        int p = 0;
        while (true) {
            if (weights.size() + w.size() == 8) {
                return -1 - p;
            }
            int q = p;
            while (q < t.length() && q < p + 2 && Character.isDigit(t.charAt(q)) && q < 55) {
                q++;
            }
            if (q == p) {
                return -1 - q;
            }
            int weight = Integer.parseInt(t.substring(p, q));
            if (weight == 0) {
                return -1 - (q - 1);
            }
            String form = ",00";
            for (int k = 0; k < 3; k++, q++) {
                char s = q < t.length() ? t.charAt(q) : 'x';
                if (k == 0 ? s != ',' : s < '0' || s > '9') {
                    return -1 - q;
                }
            }
            int field = Integer.parseInt(t.substring(q - form.length() + 1, q));
            if (!has(field) || at(field) != '~') {
                return -1 - (q - 1);
            }
            w.add(weight);
            f.add(field);
            if (q == t.length()) {
                break;
            }
            if (t.charAt(q) != ';') {
                return -1 - q;
            }
            p = q + 1;
        }
        weights.addAll(w);
        now.places.addAll(f);
        past = new ArrayList<>();
        return w.size();
    }

    /** The first place of a rule at which no sign, or no end, can be as it is; -1 if there is none. */
    static int faultOf(String t) {
        if (t.isEmpty()) {
            return -1;
        }
        boolean wanting = true;
        int digits = 0;
        List<Boolean> compared = new ArrayList<>(List.of(false));
        for (int p = 0; p < t.length(); p++) {
            if (p == 40) {
                return 40;
            }
            char c = t.charAt(p);
            int top = compared.size() - 1;
            if (wanting) {
                if (c == '(' && top < 4) {
                    compared.add(false);
                } else if (c >= '0' && c <= '9') {
                    wanting = false;
                    digits = 1;
                } else if ("wuvgh".indexOf(c) >= 0) {
                    wanting = false;
                    digits = 9;
                } else if (c != '-') {
                    return p;
                }
            } else if (c >= '0' && c <= '9' && digits < 3) {
                digits++;
            } else if ("+-*/".indexOf(c) >= 0) {
                wanting = true;
            } else if ("<>=".indexOf(c) >= 0 && !compared.get(top)) {
                compared.set(top, true);
                wanting = true;
            } else if (c == ')' && top > 0) {
                compared.remove(top);
                digits = 9;
            } else {
                return p;
            }
        }
        return wanting || compared.size() > 1 ? t.length() : -1;
    }

    /** By the sign that binds least and stands last, outside of brackets. */
    static int worth(String t, int w, int u, int v, int g, int h) {
        for (String signs : new String[] {"<>=", "+-", "*/"}) {
            int depth = 0;
            for (int p = t.length() - 1; p > 0; p--) {
                char c = t.charAt(p);
                depth += c == ')' ? 1 : c == '(' ? -1 : 0;
                boolean joins = "<>=+-*/(".indexOf(t.charAt(p - 1)) < 0;
                if (depth == 0 && joins && signs.indexOf(c) >= 0) {
                    int a = worth(t.substring(0, p), w, u, v, g, h);
                    int b = worth(t.substring(p + 1), w, u, v, g, h);
                    switch (c) {
                        case '<': return a < b ? 1 : 0;
                        case '>': return a > b ? 1 : 0;
                        case '=': return a == b ? 1 : 0;
                        case '+': return a + b;
                        case '-': return a - b;
                        case '*': return a * b;
                        default: return b == 0 ? 0 : a / b;
                    }
                }
            }
        }
        switch (t.charAt(0)) {
            case '-': return -worth(t.substring(1), w, u, v, g, h);
            case '(': return worth(t.substring(1, t.length() - 1), w, u, v, g, h);
            case 'w': return w;
            case 'u': return u;
            case 'v': return v;
            case 'g': return g;
            case 'h': return h;
            default: return Integer.parseInt(t);
        }
    }

    long rule() {
        String t = taken();
        int fault = faultOf(t);
        if (fault >= 0) {
            return -1 - fault;
        }
        rule = t;
        return 0;
    }

    // ---- pulls

    private long pullOf(String law, int weight, int from, int to, boolean planks, long night, long hour) {
        int rise = height(to) - height(from);
        String t = law.isEmpty() ? "w*(1+u)/(1+g*2)+1" : law;
        int drag = worth(t, weight, rise > 0 ? rise : 0, rise < 0 ? -rise : 0, planks ? 1 : 0, (int) hour);
        drag = drag < 0 ? 0 : drag > 999 ? 999 : drag;
        return night % 4 == 3 ? drag + drag / 2 : drag;
    }

    private long pullNow(int weight, int from, int to) {
        return pullOf(rule, weight, from, to, now.planks.contains(to), now.night, now.hour);
    }

    private static long noiseOf(long pull, long night) {
        switch ((int) (night % 4)) {
            case 1: return pull / 10 / 2;
            case 2: return pull / 10 * 2;
            default: return pull / 10;
        }
    }

    long field(int f, int what) {
        if (!has(f)) {
            return THROWN;
        }
        switch (what) {
            case 0: return isLand(f) ? 0 : at(f) == '~' ? 1 : at(f) == '*' ? 2 : 3;
            case 1: return height(f);
            case 2: return now.planks.contains(f) ? 1 : 0;
            case 3: return shipsAt(f);
            default: return THROWN;
        }
    }

    private long shipsAt(int f) {
        long bits = 0;
        for (int i = 0; i < now.places.size(); i++) {
            bits += now.places.get(i) == f ? 1 << i : 0;
        }
        return bits;
    }

    private boolean hasShip(int s) {
        return s >= 0 && s < weights.size();
    }

    private boolean isOver(int s) {
        return at(now.places.get(s)) == '*';
    }

    private long overCount() {
        long n = 0;
        for (int i = 0; i < weights.size(); i++) {
            n += isOver(i) ? 1 : 0;
        }
        return n;
    }

    long ship(int s, int what) {
        if (!hasShip(s)) {
            return THROWN;
        }
        switch (what) {
            case 0: return weights.get(s);
            case 1: return now.places.get(s);
            case 2: return now.dragged.contains(s) ? 1 : 0;
            case 3: return isOver(s) ? 1 : 0;
            default: return THROWN;
        }
    }

    long pull(int s, int heading) {
        if (!hasShip(s) || heading < 0 || heading > 3) {
            return -1;
        }
        int from = now.places.get(s);
        int to = beside(from, heading);
        if (to < 0 || isLand(to) && shipsAt(to) != 0) {
            return -2;
        }
        return pullNow(weights.get(s), from, to);
    }

    long set(int what, int v) {
        if (what < 0 || what > 1 || v < 0 || v > 999 || what == 0 && v < now.used) {
            return -1;
        }
        long was = what == 0 ? oxen : ear;
        if (what == 0) {
            oxen = v;
        } else {
            ear = v;
        }
        return was;
    }

    long sheet(int kind, int n, int f, int step) {
        if (kind < 0 || kind > 3 || n > 8) {
            return -1;
        }
        if (kind < 3 && n < 0) {
            return -2;
        }
        long sum = 0;
        int entry = f;
        for (int i = 0; i < weights.size(); i++) {
            int w = kind == 0 ? (byte) entry : kind == 1 ? (short) entry : entry;
            w = kind == 3 || i >= n || w < 1 ? 1 : w > 99 ? 99 : w;
            weights.set(i, w);
            sum += w;
            entry += step;
        }
        return kind == 3 ? -3 : sum;
    }

    // ---- acts

    private long doDrag(int s, int heading) {
        long pull = pull(s, heading);
        if (pull < 0) {
            return pull;
        }
        if (now.dragged.contains(s)) {
            return -3;
        }
        if (oxen - now.used < pull) {
            return -4;
        }
        now.places.set(s, beside(now.places.get(s), heading));
        now.dragged.add(s);
        now.used += pull;
        now.noise += noiseOf(pull, now.night);
        return oxen - now.used;
    }

    private long doPlank(int f) {
        if (!has(f)) {
            return -1;
        }
        if (!isLand(f)) {
            return -2;
        }
        if (!now.planks.remove(f)) {
            now.planks.add(f);
        }
        return now.planks.size();
    }

    private void anHour() {
        now.alarms += now.noise > ear ? 1 : 0;
        now.used = 0;
        now.noise = 0;
        now.dragged.clear();
        long all = now.night * 10 + now.hour + 1;
        now.night = all / 10;
        now.hour = all % 10;
    }

    private long doHours(int n) {
        if (n < 1 || n > 30) {
            return -1;
        }
        for (int i = 0; i < n; i++) {
            anHour();
        }
        return now.night * 10 + now.hour;
    }

    private void remember(State s) {
        past.add(s);
        if (past.size() > 15) {
            past.remove(0);
        }
    }

    private long acted(State ahead, long answer) {
        if (answer >= 0) {
            remember(ahead);
        }
        return answer;
    }

    long drag(int s, int heading) {
        return acted(now.copy(), doDrag(s, heading));
    }

    long plank(int f) {
        return acted(now.copy(), doPlank(f));
    }

    long hours(int n) {
        State ahead = now.copy();
        long answer = acted(ahead, doHours(n));
        if (answer >= 0) {
            tell(now.alarms - ahead.alarms);
        }
        return answer;
    }

    long siege() {
        String t = taken();
        List<String> acts = new ArrayList<>();
        for (int p = 0; p < t.length();) {
            String[] form = t.charAt(p) == 'd' ? new String[] {"d", "0123456789", "0123"}
                    : t.charAt(p) == 'p' ? new String[] {"p", "0123456789", "0123456789"}
                    : new String[] {"h", "123456789"};
            for (int k = 0; k < form.length; k++) {
                if (p + k == 60 || p + k >= t.length() || form[k].indexOf(t.charAt(p + k)) < 0) {
                    return -1 - (p + k);
                }
            }
            acts.add(t.substring(p, p + form.length));
            p += form.length;
        }
        State ahead = now.copy();
        int done = 0;
        boolean refused = false;
        for (String a : acts) {
            int n = Integer.parseInt(a.substring(1));
            long answer = a.charAt(0) == 'd' ? doDrag(n / 10, n % 10) : a.charAt(0) == 'p' ? doPlank(n) : doHours(n);
            if (answer < 0) {
                refused = true;
                break;
            }
            done++;
        }
        if (done > 0) {
            remember(ahead);
        }
        tell(refused ? 1 : 0, overCount());
        return done;
    }

    long undo() {
        if (past.isEmpty()) {
            return -1;
        }
        now = past.remove(past.size() - 1);
        return past.size();
    }

    // ---- ways: every way without a FIELD twice is tried

    private interface Steps {
        long of(int from, int to);
    }

    private final class Best {
        final boolean sums;
        final Steps steps;
        final int to;
        long value = FAR;
        List<Integer> way = null;

        Best(boolean sums, Steps steps, int to) {
            this.sums = sums;
            this.steps = steps;
            this.to = to;
        }

        void go(List<Integer> way, long value) {
            int f = way.get(way.size() - 1);
            if (value > this.value) {
                return;
            }
            if (f == to) {
                if (value < this.value || less(way, this.way)) {
                    this.value = value;
                    this.way = new ArrayList<>(way);
                }
                return;
            }
            for (int heading = 0; heading < 4; heading++) {
                int next = beside(f, heading);
                if (next >= 0 && !way.contains(next)) {
                    long pull = steps.of(f, next);
                    way.add(next);
                    go(way, sums ? value + pull : Math.max(value, pull));
                    way.remove(way.size() - 1);
                }
            }
        }

        private boolean less(List<Integer> a, List<Integer> b) {
            if (a.size() != b.size()) {
                return a.size() < b.size();
            }
            for (int i = 0; i < a.size(); i++) {
                if (!a.get(i).equals(b.get(i))) {
                    return a.get(i) < b.get(i);
                }
            }
            return false;
        }
    }

    private Best best(boolean sums, int from, int to, Steps steps) {
        Best b = new Best(sums, steps, to);
        if (fields() <= 16) {
            b.go(new ArrayList<>(List.of(from)), 0);
            return b;
        }
        if (sums) {
            mend(b, from, FAR, steps);
            return b;
        }
        long most = between(steps)[from][to];
        if (most < FAR) {
            mend(b, from, most, (x, y) -> 1);
            b.value = most;
        }
        return b;
    }

    /** The best way from each FIELD by sums, no PULL above the most, mended till nothing is. */
    private void mend(Best b, int from, long most, Steps costs) {
        List<List<Integer>> ways = new ArrayList<>();
        long[] values = new long[fields()];
        for (int f = 0; f < fields(); f++) {
            ways.add(f == b.to ? List.of(f) : null);
            values[f] = f == b.to ? 0 : FAR;
        }
        for (boolean mended = true; mended;) {
            mended = false;
            for (int f = 0; f < fields(); f++) {
                for (int heading = 0; heading < 4 && at(f) != '#'; heading++) {
                    int next = beside(f, heading);
                    if (next < 0 || ways.get(next) == null || b.steps.of(f, next) > most) {
                        continue;
                    }
                    long value = values[next] + costs.of(f, next);
                    List<Integer> way = new ArrayList<>(List.of(f));
                    way.addAll(ways.get(next));
                    if (value < values[f] || value == values[f] && b.less(way, ways.get(f))) {
                        values[f] = value;
                        ways.set(f, way);
                        mended = true;
                    }
                }
            }
        }
        b.value = values[from];
        b.way = ways.get(from);
    }

    private long wrongWay(int weight, int from, int to) {
        if (weight < 1 || weight > 99 || !has(from) || !has(to)) {
            return -1;
        }
        return at(from) == '#' || at(to) == '#' ? -2 : 0;
    }

    private long bestWay(boolean sums, int weight, int from, int to) {
        long wrong = wrongWay(weight, from, to);
        if (wrong != 0) {
            return wrong;
        }
        Best b = best(sums, from, to, (a, c) -> pullNow(weight, a, c));
        if (b.way == null) {
            return -2;
        }
        row = new ArrayList<>();
        for (int f : b.way) {
            row.add((long) f);
        }
        return b.value;
    }

    long way(int weight, int from, int to) {
        return bestWay(false, weight, from, to);
    }

    long easy(int weight, int from, int to) {
        return bestWay(true, weight, from, to);
    }

    long soon(int weight, int from, int to) {
        long wrong = wrongWay(weight, from, to);
        if (wrong != 0) {
            return wrong;
        }
        long n = best(true, from, to, (a, c) -> pullNow(weight, a, c) <= oxen ? 1 : FAR / 100).value;
        return n >= FAR / 100 ? -2 : n;
    }

    /** The least greatest step from each FIELD to each one. */
    private long[][] between(Steps steps) {
        int n = fields();
        long[][] d = new long[n][n];
        for (int a = 0; a < n; a++) {
            Arrays.fill(d[a], FAR);
            d[a][a] = at(a) == '#' ? FAR : 0;
            for (int heading = 0; heading < 4 && at(a) != '#'; heading++) {
                if (beside(a, heading) >= 0) {
                    d[a][beside(a, heading)] = steps.of(a, beside(a, heading));
                }
            }
        }
        for (int m = 0; m < n; m++) {
            for (int a = 0; a < n; a++) {
                for (int b = 0; b < n; b++) {
                    d[a][b] = Math.min(d[a][b], Math.max(d[a][m], d[m][b]));
                }
            }
        }
        return d;
    }

    long pass() {
        long[][] d = between((a, b) -> Math.max(height(a), height(b)));
        long least = FAR;
        for (int a = 0; a < fields(); a++) {
            for (int b = 0; b < fields(); b++) {
                least = at(a) == '~' && at(b) == '*' ? Math.min(least, d[a][b]) : least;
            }
        }
        if (least == FAR) {
            return -2;
        }
        long bits = 0;
        for (int f = 0; f < fields(); f++) {
            boolean fromSea = false;
            boolean toHarbour = false;
            for (int a = 0; a < fields(); a++) {
                fromSea |= at(a) == '~' && d[a][f] <= least;
                toHarbour |= at(a) == '*' && d[f][a] <= least;
            }
            bits |= fromSea && toHarbour ? 1L << f : 0;
        }
        tell(bits);
        return least;
    }

    private long[] oxenOf(int s) {
        long[][] d = between((a, b) -> pullNow(weights.get(s), a, b));
        long least = FAR;
        long field = -1;
        for (int f = 0; f < fields(); f++) {
            if (at(f) == '*' && d[now.places.get(s)][f] < least) {
                least = d[now.places.get(s)][f];
                field = f;
            }
        }
        return new long[] {least, field};
    }

    long oxen(int s) {
        if (!hasShip(s)) {
            return -1;
        }
        long[] answer = oxenOf(s);
        if (answer[0] == FAR) {
            return -2;
        }
        tell(answer[1]);
        return answer[0];
    }

    long can() {
        long bits = 0;
        for (int s = 0; s < weights.size(); s++) {
            bits |= oxenOf(s)[0] <= oxen ? 1 << s : 0;
        }
        tell(Long.bitCount(bits));
        return bits;
    }

    long planks(int weight, int k) {
        if (weight < 1 || weight > 99 || k < 0 || k > 2) {
            return -1;
        }
        long least = FAR;
        long best = 0;
        for (int a = 0; a < (k > 1 ? fields() : 1); a++) {
            for (int b = 0; b < (k > 0 ? fields() : 1); b++) {
                TreeSet<Integer> more = new TreeSet<>();
                if (k > 0) {
                    more.add(b);
                }
                if (k > 1) {
                    more.add(a);
                }
                long bits = 0;
                boolean good = more.size() == k;
                for (int f : more) {
                    good &= isLand(f) && !now.planks.contains(f);
                    bits |= 1L << f;
                }
                if (!good) {
                    continue;
                }
                more.addAll(now.planks);
                long[][] d = between((x, y) -> pullOf(rule, weight, x, y, more.contains(y), now.night, now.hour));
                long most = FAR;
                for (int x = 0; x < fields(); x++) {
                    for (int y = 0; y < fields(); y++) {
                        most = at(x) == '~' && at(y) == '*' ? Math.min(most, d[x][y]) : most;
                    }
                }
                if (most < least || most == least && bits < best) {
                    least = most;
                    best = bits;
                }
            }
        }
        if (least == FAR) {
            return -2;
        }
        tell(best);
        return least;
    }

    // ---- hours, nights

    private long hoursOver(String law, int s) {
        TreeSet<Integer> places = new TreeSet<>();
        places.add(now.places.get(s));
        for (int t = 0; t <= 60; t++) {
            for (int f : places) {
                if (at(f) == '*') {
                    return t;
                }
            }
            TreeSet<Integer> next = new TreeSet<>(places);
            long all = now.night * 10 + now.hour + t;
            for (int f : places) {
                for (int heading = 0; heading < 4; heading++) {
                    int to = beside(f, heading);
                    if (to >= 0 && pullOf(law, weights.get(s), f, to, now.planks.contains(to), all / 10, all % 10) <= oxen) {
                        next.add(to);
                    }
                }
            }
            places = next;
        }
        return 61;
    }

    long over(int s) {
        if (!hasShip(s)) {
            return -1;
        }
        long n = hoursOver(rule, s);
        return n == 61 ? -2 : n;
    }

    long kind(int n, int v) {
        if (n < 0 || n > 99 || v < 0 || v > 9999) {
            return -1;
        }
        tell(noiseOf(v, now.night + n));
        return (now.night + n) % 4;
    }

    long quiet(int n) {
        if (n < 0 || n > 99) {
            return -1;
        }
        long most = 0;
        for (int v = 0; v <= 9999; v++) {
            most = noiseOf(v, now.night + n) <= ear ? v : most;
        }
        return most;
    }

    long night(int weight, int from, int to) {
        long wrong = wrongWay(weight, from, to);
        if (wrong != 0) {
            return wrong;
        }
        long best = -1;
        long least = FAR;
        for (int i = 0; i < 4; i++) {
            long night = now.night + i;
            Steps steps = (a, b) -> pullOf(rule, weight, a, b, now.planks.contains(b), night, 0);
            Best b = best(true, from, to, steps);
            if (b.way == null) {
                return -2;
            }
            long noise = 0;
            for (int k = 1; k < b.way.size(); k++) {
                noise += noiseOf(steps.of(b.way.get(k - 1), b.way.get(k)), night);
            }
            if (noise < least) {
                least = noise;
                best = i;
            }
        }
        tell(least);
        return best;
    }

    // ---- walls: every row of men is tried

    private long most;
    private List<Long> mostRow;

    long walls(int m) {
        String t = taken();
        if (m < 0 || m > 99) {
            return -100;
        }
        for (int p = 0; p < t.length(); p++) {
            if (p == 4 || t.charAt(p) < '1' || t.charAt(p) > '9') {
                return -1 - p;
            }
        }
        if (t.isEmpty()) {
            return -1;
        }
        most = -1;
        man(t, m, FAR, new ArrayList<>());
        row = mostRow;
        return most;
    }

    private void man(String yards, int left, long least, List<Long> men) {
        int i = men.size();
        if (i == yards.length()) {
            if (left == 0 && least > most) {
                most = least;
                mostRow = new ArrayList<>(men);
            }
            return;
        }
        for (int here = i == yards.length() - 1 ? left : 0; here <= left; here++) {
            men.add((long) here);
            man(yards, left - here, Math.min(least, 100L * here / (yards.charAt(i) - '0')), men);
            men.remove(i);
        }
    }

    long storm(int a, int b) {
        if (a < 0 || b < 0 || (long) a + b > 6) {
            return -1;
        }
        int[] wall = {a, b, 6 - a - b};
        int[] counts = new int[7];
        long[][] first = new long[7][];
        for (int x = 0; x <= 6; x++) {
            for (int y = 0; x + y <= 6; y++) {
                int[] men = {x, y, 6 - x - y};
                int more = 0;
                for (int i = 0; i < 3; i++) {
                    more += Integer.signum(men[i] - wall[i]);
                }
                counts[more + 3]++;
                first[more + 3] = first[more + 3] == null ? new long[] {x, y, more} : first[more + 3];
            }
        }
        for (int more = 6;; more--) {
            if (counts[more] > 0) {
                tell(first[more]);
                return counts[more];
            }
        }
    }

    // ---- the town, raids

    private long[][][] bids;

    /** What the besieger has, what the other one has, what is offered. */
    private long[] bid(int v, int k, int turn, int last) {
        if (bids[turn][last] != null) {
            return bids[turn][last];
        }
        long[] ends = {0, 0, 0};
        int me = turn % 2;
        ends[1 - me] = last > 0 ? v - last : 0;
        if (turn == k) {
            return ends;
        }
        for (int more = 1; more <= 3 && last + more <= v; more++) {
            long[] then = bid(v, k, turn + 1, last + more);
            if (then[me] > ends[me]) {
                ends = new long[] {then[0], then[1], last + more};
            }
        }
        bids[turn][last] = ends;
        return ends;
    }

    long town(int v, int k) {
        if (v < 1 || v > 60 || k < 1 || k > 20) {
            return -1;
        }
        bids = new long[k + 1][v + 1][];
        long[] ends = bid(v, k, 0, 0);
        tell(ends[1], ends[2]);
        return ends[0];
    }

    long secret(int n, int p) {
        if (n < 0 || n > 12 || p < 0 || p > 10) {
            return -1;
        }
        java.math.BigInteger upper = java.math.BigInteger.valueOf(10 - p).pow(n);
        java.math.BigInteger lower = java.math.BigInteger.TEN.pow(n);
        java.math.BigInteger common = upper.gcd(lower);
        tell(upper.divide(common).longValueExact(), lower.divide(common).longValueExact());
        return 0;
    }

    long told(int p, int v) {
        if (p < 0 || p > 10 || v < 0 || v > 100) {
            return -1;
        }
        long answer = -2;
        for (int n = 0; n <= 12; n++) {
            java.math.BigDecimal odds = java.math.BigDecimal.valueOf(10 - p, 1).pow(n);
            answer = odds.compareTo(java.math.BigDecimal.valueOf(v, 2)) >= 0 ? n : answer;
        }
        return answer;
    }

    // ---- which ship it was

    long trace(int v, int is) {
        if (v < 1 || v > 99 || is < 0 || is > 1 || traces.size() == 12) {
            return -1;
        }
        traces.add(new int[] {v, is});
        return traces.size();
    }

    long forget() {
        long n = traces.size();
        traces.clear();
        return n;
    }

    private List<Integer> fitting() {
        List<Integer> fit = new ArrayList<>();
        for (int s = 0; s < weights.size(); s++) {
            boolean fits = true;
            for (int[] t : traces) {
                fits &= weights.get(s) >= t[0] == (t[1] == 1);
            }
            if (fits) {
                fit.add(s);
            }
        }
        return fit;
    }

    long fits() {
        long bits = 0;
        for (int s : fitting()) {
            bits |= 1 << s;
        }
        tell(fitting().size());
        return bits;
    }

    long ask() {
        if (fitting().isEmpty()) {
            return -2;
        }
        long best = -1;
        long fewest = 99;
        for (int v = 99; v >= 1; v--) {
            long less = 0;
            for (int s : fitting()) {
                less += weights.get(s) < v ? 1 : 0;
            }
            long left = Math.max(less, fitting().size() - less);
            if (left <= fewest) {
                fewest = left;
                best = v;
            }
        }
        tell(fewest);
        return best;
    }

    // ---- laws, rests, sieges

    long law(int s) {
        String t = taken();
        if (!hasShip(s)) {
            return -20000;
        }
        if (faultOf(t) >= 0) {
            return -10000 - faultOf(t);
        }
        long a = hoursOver(t, s);
        long b = hoursOver(rule, s);
        tell(a, b);
        return a - b;
    }

    long rests(int v, int c) {
        if (v < 1 || v > 99 || c < 0 || c > 20) {
            return -1;
        }
        long n = 0;
        tell();
        for (int x = 9; x >= 0; x--) {
            for (int y = 9; y >= 0; y--) {
                boolean rests = true;
                for (int z = 0; z < 10; z++) {
                    rests &= (z >= y ? v : 0) - c * z <= (x >= y ? v : 0) - c * x;
                    rests &= (z > x ? v : 0) - c * z <= (y > x ? v : 0) - c * y;
                }
                if (rests) {
                    n++;
                    tell(x, y);
                }
            }
        }
        return n;
    }

    private long drawn;

    private int draw(int n) {
        drawn = drawn * 1103515245L + 12345 & 0xffffffffL;
        return (int) (drawn / 65536 % n);
    }

    long sieges(int seed, int n) {
        if (weights.isEmpty()) {
            return -2;
        }
        if (n < 1 || n > 99) {
            return -1;
        }
        State ahead = now.copy();
        drawn = seed & 0xffffffffL;
        long done = 0;
        for (int i = 1; i <= n; i++) {
            int s = draw(weights.size());
            int heading = draw(4);
            done += doDrag(s, heading) >= 0 ? 1 : 0;
            if (i % 3 == 0) {
                anHour();
            }
        }
        tell(overCount(), now.alarms - ahead.alarms);
        now = ahead;
        return done;
    }

    // ---- kept

    long keep(int i) {
        if (i < 0 || i > 2) {
            return 0;
        }
        kept[i] = now.copy();
        return 1;
    }

    long again(int i) {
        if (i < 0 || i > 2 || kept[i] == null || kept[i].places.size() != now.places.size()) {
            return 0;
        }
        now = kept[i].copy();
        past = new ArrayList<>();
        return 1;
    }

    long count(int what) {
        switch (what) {
            case 0: return land.length;
            case 1: return columns();
            case 2: return weights.size();
            case 3: return oxen;
            case 4: return now.used;
            case 5: return now.night;
            case 6: return now.hour;
            case 7: return ear;
            case 8: return now.noise;
            case 9: return now.alarms;
            case 10: return now.planks.size();
            case 11:
                long bits = 0;
                for (int s = 0; s < weights.size(); s++) {
                    bits |= isOver(s) ? 1 << s : 0;
                }
                return bits;
            case 12: return traces.size();
            case 13: return past.size();
            case 14: return row.size();
            case 15: return text.length();
            default: return -100;
        }
    }

    long row(int i) {
        return i >= 0 && i < row.size() ? row.get(i) : THROWN;
    }
}
