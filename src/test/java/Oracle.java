import java.math.BigInteger;
import java.util.ArrayList;
import java.util.HashMap;
import java.util.List;
import java.util.Map;
import java.util.function.IntUnaryOperator;
import java.util.regex.Matcher;
import java.util.regex.Pattern;

/**
 * The document once more, as slowly and literally as can be, with the whole Java library: what
 * OnChin is compared with in random runs. It shares no code and no shortcut with OnChin.
 */
final class Oracle {
    static final int NONE = -1, UNKNOWN = -2, OUTSIDE = -3, NOT = -4, FULL = -5;

    static final class Body implements Cloneable {
        String kind = "plain";
        int s = 0;
        List<int[]> lumps = new ArrayList<>();

        int length() {
            long above = 0, below = 0;
            for (int[] l : lumps) {
                above += (long) l[0] * l[0] * l[1];
                below += (long) l[0] * l[1];
            }
            return below == 0 ? NONE : (int) (above / below);
        }

        int tallest() {
            return lumps.stream().mapToInt(l -> l[0]).max().orElse(0);
        }
    }

    static final class Settings implements Cloneable {
        int a = 10, b = 20, late = 1, reach = 20, dead = 0;
        int floor = 200, pull = 20, bound = 100, wind = 0, shake = 0;

        Settings copy() {
            try {
                return (Settings) clone();
            } catch (CloneNotSupportedException e) {
                throw new IllegalStateException(e);
            }
        }
    }

    /** A state with the whole history: xs.get(t) is X ahead of TICK t. */
    static final class State {
        int thing, v, f, m;
        List<Integer> xs = new ArrayList<>();

        State(int thing, int x, int v) {
            this.thing = thing;
            this.v = v;
            xs.add(x);
        }

        State(State o) {
            thing = o.thing;
            v = o.v;
            f = o.f;
            m = o.m;
            xs = new ArrayList<>(o.xs);
        }

        int t() {
            return xs.size() - 1;
        }

        int x() {
            return xs.get(t());
        }

        boolean fallen(Settings g) {
            return Math.abs(x()) > g.bound;
        }

        void tick(Body body, Settings g, boolean minded, int gust) {
            int t = t(), x = x();
            m = 0;
            if (minded) {
                int at = t - g.late - (body.kind.equals("jointed") ? body.s : 0);
                m = wanted(g, xs.get(Math.max(at, 0)), xs.get(Math.max(at - 1, 0)));
                if (f + m > g.floor) {
                    m = g.floor - f;
                }
                if (f + m < -g.floor) {
                    m = -g.floor - f;
                }
            }
            int pull = g.pull + (t % 2 == 0 ? g.shake : -g.shake);
            int leans = x * pull / body.length();
            if (body.kind.equals("turning")) {
                leans -= x * body.s / 10;
            }
            if (body.kind.equals("wet")) {
                leans += v * body.s / 20;
            }
            v += leans + g.wind + gust;
            xs.add(x + v - m);
            f += m;
        }
    }

    static int wanted(Settings g, int seen, int before) {
        int m = (g.a * seen + g.b * (seen - before)) / 10;
        if (Math.abs(seen) < g.dead) {
            m = 0;
        }
        if (m > g.reach) {
            m = g.reach;
        }
        if (m < -g.reach) {
            m = -g.reach;
        }
        return m;
    }

    Body[] bodies = {new Body(), new Body(), new Body(), new Body()};
    Settings now = new Settings();
    String text = "";
    State up = null;
    State[] images = new State[2];
    List<int[]> film = new ArrayList<>();
    int[] draughts = new int[36], lamps = new int[36];

    static boolean in(int n, int lo, int hi) {
        return lo <= n && n <= hi;
    }

    boolean noThing(int t) {
        return t < 0 || t > 3;
    }

    boolean empty(int t) {
        return bodies[t].lumps.isEmpty();
    }

    // ---- what is told

    int write(long bytes, int n) {
        if (n < 1 || n > 8) {
            return OUTSIDE;
        }
        if (text.length() + n > 200) {
            return FULL;
        }
        for (int i = 0; i < n; i++) {
            text += (char) (bytes >> (8 * i) & 255);
        }
        return text.length();
    }

    int erase() {
        int n = text.length();
        text = "";
        return n;
    }

    static final Pattern TOKEN = Pattern.compile("[a-z]+|[0-9]+|[^ ]", Pattern.DOTALL);
    static final Map<String, String> FORMS = new HashMap<>();

    static {
        FORMS.put("lump", "T 1-300 1-99");
        FORMS.put("bare", "T");
        FORMS.put("man", "0-40 0-40 0-6 1-99 0-99");
        FORMS.put("floor", "0-999");
        FORMS.put("pull", "1-99");
        FORMS.put("bound", "1-999");
        FORMS.put("wind", "0-20");
        FORMS.put("shake", "0-99");
        FORMS.put("thing", "T K");
    }

    /** Fills lines with what was read; answers the FAULT's place. */
    int read(List<List<String>> lines) {
        List<String> tokens = new ArrayList<>();
        List<Integer> places = new ArrayList<>();
        Matcher m = TOKEN.matcher(text);
        while (m.find()) {
            tokens.add(m.group());
            places.add(m.start());
        }
        tokens.add("");
        places.add(text.length());
        int[] lumps = new int[4];
        for (int i = 0; i < 4; i++) {
            lumps[i] = bodies[i].lumps.size();
        }
        int at = 0;
        while (true) {
            List<String> line = new ArrayList<>();
            String word = tokens.get(at);
            if (!FORMS.containsKey(word)) {
                return places.get(at);
            }
            line.add(word);
            at++;
            String rest = FORMS.get(word);
            while (!rest.isEmpty()) {
                String[] cut = rest.split(" ", 2);
                rest = cut.length > 1 ? cut[1] : "";
                String token = tokens.get(at);
                if (cut[0].equals("K")) {
                    if (token.equals("turning") || token.equals("wet") || token.equals("jointed")) {
                        rest = "1-9";
                    } else if (!token.equals("plain")) {
                        return places.get(at);
                    }
                } else {
                    String range = cut[0].equals("T") ? "0-3" : cut[0];
                    if (!token.matches("[0-9]{1,3}")) {
                        return places.get(at);
                    }
                    int value = Integer.parseInt(token);
                    String[] ends = range.split("-");
                    if (value < Integer.parseInt(ends[0]) || value > Integer.parseInt(ends[1])) {
                        return places.get(at);
                    }
                    if (cut[0].equals("T") && word.equals("lump") && ++lumps[value] > 4) {
                        return places.get(at);
                    }
                    if (word.equals("bare")) {
                        lumps[value] = 0;
                    }
                }
                line.add(token);
                at++;
            }
            lines.add(line);
            if (tokens.get(at).isEmpty()) {
                return NONE;
            }
            if (!tokens.get(at).equals(";") || lines.size() == 8) {
                return places.get(at);
            }
            at++;
        }
    }

    int fault() {
        return read(new ArrayList<>());
    }

    int chin() {
        List<List<String>> lines = new ArrayList<>();
        if (read(lines) != NONE) {
            return NOT;
        }
        for (List<String> line : lines) {
            int[] n = new int[6];
            for (int i = 1; i < line.size(); i++) {
                n[i] = line.get(i).matches("[0-9]+") ? Integer.parseInt(line.get(i)) : 0;
            }
            switch (line.get(0)) {
                case "thing" -> {
                    bodies[n[1]].kind = line.get(2);
                    bodies[n[1]].s = n[3];
                }
                case "lump" -> bodies[n[1]].lumps.add(new int[] {n[2], n[3]});
                case "bare" -> bodies[n[1]].lumps.clear();
                case "man" -> {
                    now.a = n[1];
                    now.b = n[2];
                    now.late = n[3];
                    now.reach = n[4];
                    now.dead = n[5];
                }
                case "floor" -> now.floor = n[1];
                case "pull" -> now.pull = n[1];
                case "bound" -> now.bound = n[1];
                case "wind" -> now.wind = n[1];
                case "shake" -> now.shake = n[1];
                default -> throw new IllegalStateException(line.get(0));
            }
        }
        text = "";
        return lines.size();
    }

    int thing(int t, int what) {
        if (noThing(t)) {
            return UNKNOWN;
        }
        return switch (what) {
            case 0 -> List.of("plain", "turning", "wet", "jointed").indexOf(bodies[t].kind);
            case 1 -> bodies[t].s;
            case 2 -> bodies[t].lumps.size();
            case 3 -> bodies[t].length();
            case 4 -> bodies[t].tallest();
            default -> OUTSIDE;
        };
    }

    int lump(int t, int i, int what) {
        if (noThing(t) || i < 0 || i >= bodies[t].lumps.size()) {
            return UNKNOWN;
        }
        return what == 0 || what == 1 ? bodies[t].lumps.get(i)[what] : OUTSIDE;
    }

    // ---- ticks

    int begin(int t, int x, int v) {
        if (noThing(t)) {
            return UNKNOWN;
        }
        if (!in(x, -999, 999) || !in(v, -99, 99)) {
            return OUTSIDE;
        }
        if (empty(t)) {
            return NOT;
        }
        up = new State(t, x, v);
        return 1;
    }

    int ticks(int n) {
        if (!in(n, 1, 100)) {
            return OUTSIDE;
        }
        if (up == null || up.fallen(now) || empty(up.thing)) {
            return NOT;
        }
        int went = 0;
        while (went < n && up.t() < 400 && !up.fallen(now)) {
            up.tick(bodies[up.thing], now, true, 0);
            went++;
        }
        return went;
    }

    int now(int what) {
        if (!in(what, 0, 6)) {
            return OUTSIDE;
        }
        if (up == null) {
            return NOT;
        }
        int[] all = {up.x() + 1000000, up.v + 1000000, up.f + 1000, up.t(), up.m + 1000,
            up.fallen(now) ? 1 : 0, up.thing};
        return all[what];
    }

    int keep(int k) {
        if (!in(k, 0, 1)) {
            return UNKNOWN;
        }
        if (up == null) {
            return NOT;
        }
        images[k] = new State(up);
        return 1;
    }

    int back(int k) {
        if (!in(k, 0, 1)) {
            return UNKNOWN;
        }
        if (images[k] == null) {
            return NOT;
        }
        up = new State(images[k]);
        return up.t();
    }

    // ---- how long

    static int last(Body body, Settings g, int x, int v, boolean minded) {
        State s = new State(0, x, v);
        while (s.t() < 400 && !s.fallen(g)) {
            s.tick(body, g, minded, 0);
        }
        return s.t();
    }

    int kept(int t, int x, int v) {
        if (noThing(t)) {
            return UNKNOWN;
        }
        if (!in(x, -999, 999) || !in(v, -99, 99)) {
            return OUTSIDE;
        }
        return empty(t) ? NOT : last(bodies[t], now, x, v, true);
    }

    static int fold(int k, int start, IntUnaryOperator of, java.util.function.IntBinaryOperator by) {
        int all = start;
        for (int x = -k; x <= k; x++) {
            all = by.applyAsInt(all, of.applyAsInt(x));
        }
        return all;
    }

    int steady(int t, int k) {
        if (noThing(t)) {
            return UNKNOWN;
        }
        if (!in(k, 0, 20)) {
            return OUTSIDE;
        }
        return empty(t) ? NOT : fold(k, 400, x -> last(bodies[t], now, x, 0, true), Math::min);
    }

    int line(int k) {
        if (!in(k, 0, 20)) {
            return OUTSIDE;
        }
        int answer = NONE;
        for (int h = 300; h >= 1; h--) {
            Body pole = new Body();
            pole.lumps.add(new int[] {h, 7});
            if (fold(k, 400, x -> last(pole, now, x, 0, true), Math::min) < 400) {
                break;
            }
            answer = h;
        }
        return answer;
    }

    int best(int t, int k, int what) {
        if (noThing(t)) {
            return UNKNOWN;
        }
        if (!in(k, 0, 4) || !in(what, 0, 2)) {
            return OUTSIDE;
        }
        if (empty(t)) {
            return NOT;
        }
        int[] best = {-1, 0, 0};
        for (int a = 0; a <= 20; a++) {
            for (int b = 0; b <= 20; b++) {
                Settings g = now.copy();
                g.a = a;
                g.b = b;
                int sum = fold(k, 0, x -> last(bodies[t], g, x, 0, true), Integer::sum);
                if (sum > best[0]) {
                    best = new int[] {sum, a, b};
                }
            }
        }
        return best[what];
    }

    BigInteger ways(State s, Body body, int n, int w, int p) {
        if (s.fallen(now)) {
            return BigInteger.ZERO;
        }
        if (n == 0) {
            return BigInteger.ONE;
        }
        BigInteger all = BigInteger.ZERO;
        int[] gusts = {w, -w, 0};
        int[] weights = {p, p, 10 - 2 * p};
        for (int i = 0; i < 3; i++) {
            State behind = new State(s);
            behind.tick(body, now, true, gusts[i]);
            all = all.add(ways(behind, body, n - 1, w, p).multiply(BigInteger.valueOf(weights[i])));
        }
        return all;
    }

    int odds(int t, int x, int n, int w, int p, int part) {
        if (noThing(t)) {
            return UNKNOWN;
        }
        if (!in(x, -999, 999) || !in(n, 0, 6) || !in(w, 0, 99) || !in(p, 0, 5) || !in(part, 0, 1)) {
            return OUTSIDE;
        }
        if (empty(t)) {
            return NOT;
        }
        BigInteger above = ways(new State(t, x, 0), bodies[t], n, w, p);
        BigInteger below = BigInteger.TEN.pow(n);
        BigInteger shared = above.gcd(below);
        return (part == 0 ? above : below).divide(shared).intValueExact();
    }

    int stands(int t, int x) {
        if (noThing(t)) {
            return UNKNOWN;
        }
        if (!in(x, -999, 999)) {
            return OUTSIDE;
        }
        if (empty(t)) {
            return NOT;
        }
        for (int shake = 0; shake < 100; shake++) {
            Settings g = now.copy();
            g.shake = shake;
            if (last(bodies[t], g, x, 0, false) == 400) {
                return shake;
            }
        }
        return NONE;
    }

    int two(int one, int x, int other, int y, int p, int q) {
        if (noThing(one) || noThing(other)) {
            return UNKNOWN;
        }
        if (!in(x, -999, 999) || !in(y, -999, 999) || !in(p, 1, 9) || !in(q, 1, 9)) {
            return OUTSIDE;
        }
        if (empty(one) || empty(other)) {
            return NOT;
        }
        State s = new State(one, x, 0), r = new State(other, y, 0);
        int t = 0;
        while (t < 400 && !s.fallen(now) && !r.fallen(now)) {
            s.tick(bodies[one], now, t % (p + q) < p, 0);
            r.tick(bodies[other], now, t % (p + q) >= p, 0);
            t++;
        }
        return t;
    }

    // ---- films

    int film(int x, int m) {
        if (!in(x, -999, 999) || !in(m, -99, 99)) {
            return OUTSIDE;
        }
        if (film.size() == 24) {
            return FULL;
        }
        film.add(new int[] {x, m});
        return film.size();
    }

    int wind() {
        int n = film.size();
        film.clear();
        return n;
    }

    static int shown(List<int[]> rows, Settings g, int t) {
        return wanted(g, rows.get(Math.max(t - g.late, 0))[0], rows.get(Math.max(t - g.late - 1, 0))[0]);
    }

    List<Settings> fitting() {
        List<Settings> found = new ArrayList<>();
        for (int code = 0; code < 7 * 21 * 21; code++) {
            Settings g = now.copy();
            g.late = code / 441;
            g.a = code / 21 % 21;
            g.b = code % 21;
            boolean fits = true;
            for (int t = 0; t < film.size(); t++) {
                fits &= shown(film, g, t) == film.get(t)[1];
            }
            if (fits) {
                found.add(g);
            }
        }
        return found;
    }

    int fits(int what) {
        if (!in(what, 0, 3)) {
            return OUTSIDE;
        }
        List<Settings> found = fitting();
        if (what == 0) {
            return found.size();
        }
        if (found.isEmpty()) {
            return NONE;
        }
        Settings g = found.get(0);
        return what == 1 ? g.late : what == 2 ? g.a : g.b;
    }

    int next(int x, int what) {
        if (!in(x, -999, 999) || !in(what, 0, 1)) {
            return OUTSIDE;
        }
        List<int[]> more = new ArrayList<>(film);
        more.add(new int[] {x, 0});
        java.util.IntSummaryStatistics all =
            fitting().stream().mapToInt(g -> shown(more, g, film.size())).summaryStatistics();
        if (all.getCount() == 0) {
            return NONE;
        }
        return 1000 + (what == 0 ? all.getMin() : all.getMax());
    }

    // ---- evenings, houses

    int evening(int tenths, int t) {
        Settings g = now.copy();
        g.late = tenths / 10;
        if (last(bodies[t], g, 10, 0, true) < 40) {
            return tenths;
        }
        int less = 200 / (bodies[t].length() + 20);
        return Math.max(0, tenths - Math.max(1, less));
    }

    /** All plans from here on, as tenths and THINGS, the first of the best. */
    int[] planned(int tenths, int n) {
        if (n == 0) {
            return new int[] {tenths};
        }
        int[] best = null;
        for (int t = 0; t < 4; t++) {
            if (empty(t)) {
                continue;
            }
            int[] rest = planned(evening(tenths, t), n - 1);
            if (best == null || rest[0] < best[0]) {
                best = new int[n + 1];
                best[0] = rest[0];
                best[1] = t;
                System.arraycopy(rest, 1, best, 2, n - 1);
            }
        }
        return best;
    }

    int plan(int n, int i) {
        if (!in(n, 1, 5) || !in(i, -1, n - 1)) {
            return OUTSIDE;
        }
        int[] best = planned(10 * now.late, n);
        return best == null ? NONE : best[i + 1];
    }

    int room(int cell, int draught, int lamp) {
        if (!in(cell, 0, 35)) {
            return UNKNOWN;
        }
        if (!in(draught, 0, 99) || !in(lamp, 0, 300)) {
            return OUTSIDE;
        }
        int had = draughts[cell];
        draughts[cell] = draught;
        lamps[cell] = lamp;
        return had;
    }

    int way(int t, int from, int to, int d, int what) {
        if (noThing(t) || !in(from, 0, 35) || !in(to, 0, 35)) {
            return UNKNOWN;
        }
        if (!in(d, 0, 99) || !in(what, 0, 1)) {
            return OUTSIDE;
        }
        if (empty(t)) {
            return NOT;
        }
        long far = Long.MAX_VALUE / 4;
        long[] cost = new long[36];
        for (int c = 0; c < 36; c++) {
            cost[c] = c == from && passes(c, d, t) ? draughts[c] : far;
        }
        for (int round = 0; round < 40; round++) {
            for (int c = 0; c < 36; c++) {
                for (int e = 0; e < 36; e++) {
                    boolean beside = Math.abs(c / 6 - e / 6) + Math.abs(c % 6 - e % 6) == 1;
                    if (beside && cost[c] < far && passes(e, d, t)) {
                        cost[e] = Math.min(cost[e], cost[c] + 1000000 + draughts[e]);
                    }
                }
            }
        }
        if (cost[to] >= far) {
            return NONE;
        }
        return (int) (what == 0 ? cost[to] / 1000000 : cost[to] % 1000000);
    }

    boolean passes(int c, int d, int t) {
        return draughts[c] <= d && (lamps[c] == 0 || lamps[c] > bodies[t].tallest());
    }

    int count(int what) {
        int[] all = {now.a, now.b, now.late, now.reach, now.dead, now.floor, now.pull, now.bound,
            now.wind, now.shake, film.size(), text.length()};
        return in(what, 0, 11) ? all[what] : OUTSIDE;
    }
}
