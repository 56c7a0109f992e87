/** Things on a chin and the man who keeps them up. The promises stand in ../shared/DOC.md. */
public final class OnChin {
    public static final int NONE = -1, UNKNOWN = -2, OUTSIDE = -3, NOT = -4, FULL = -5;

    private static final int PLAIN = 0, TURNING = 1, WET = 2, JOINTED = 3;

    /** Places in a row of told numbers: the order in which count asks for them. */
    private static final int A = 0, B = 1, LATE = 2, REACH = 3, DEAD = 4;
    private static final int FLOOR = 5, PULL = 6, BOUND = 7, WIND = 8, SHAKE = 9, NUMBERS = 10;
    private static final int[] LEAST = {0, 0, 0, 1, 0, 0, 1, 1, 0, 0};
    private static final int[] MOST = {40, 40, 6, 99, 99, 999, 99, 999, 20, 99};
    private static final int[] AT_FIRST = {10, 20, 1, 20, 0, 200, 20, 100, 0, 0};

    private static final int THINGS = 4, LUMPS = 4, HEIGHT = 300, WEIGHT = 99, BY = 9;
    private static final int BYTES = 200, LINES = 8, IMAGES = 2, ROWS = 24;
    private static final int TICKS = 400, FAR = 999, FAST = 99, GREAT = 20;
    private static final int LATEST = 6, RULES = 20, MOVE = 99;
    private static final int SIDE = 6, CELLS = SIDE * SIDE, DRAUGHT = 99;

    private final Told told;
    private final Text text;
    private final Balance up;
    private final Balance[] images;
    private final Keeper keeper;
    private final Evenings evenings;
    private final Film rows;
    private final House house;

    public OnChin() {
        told = new Told();
        text = new Text();
        up = new Balance();
        images = new Balance[IMAGES];
        for (int k = 0; k < IMAGES; k++) {
            images[k] = new Balance();
        }
        keeper = new Keeper();
        evenings = new Evenings();
        rows = new Film();
        house = new House();
    }

    // ---- what is told

    public int write(long bytes, int n) {
        if (!within(n, 1, 8)) {
            return OUTSIDE;
        }
        if (text.length + n > BYTES) {
            return FULL;
        }
        for (int i = 0; i < n; i++) {
            text.append((int) (bytes >> 8 * i & 255));
        }
        return text.length;
    }

    public int erase() {
        int had = text.length;
        text.length = 0;
        return had;
    }

    public int fault() {
        return text.firstFault(told);
    }

    public int chin() {
        if (text.firstFault(told) != NONE) {
            return NOT;
        }
        text.tell(told);
        text.length = 0;
        return text.lines;
    }

    public int thing(int thing, int what) {
        if (!isThing(thing)) {
            return UNKNOWN;
        }
        Thing asked = told.things[thing];
        switch (what) {
            case 0: return asked.kind;
            case 1: return asked.by;
            case 2: return asked.lumps;
            case 3: return asked.longness;
            case 4: return asked.tallest;
            default: return OUTSIDE;
        }
    }

    public int lump(int thing, int i, int what) {
        if (!isThing(thing) || !within(i, 0, told.things[thing].lumps - 1)) {
            return UNKNOWN;
        }
        switch (what) {
            case 0: return told.things[thing].heights[i];
            case 1: return told.things[thing].weights[i];
            default: return OUTSIDE;
        }
    }

    // ---- ticks

    public int begin(int thing, int x, int v) {
        int refusal = refusal(thing, within(x, -FAR, FAR) && within(v, -FAST, FAST));
        if (refusal != 0) {
            return refusal;
        }
        up.start(thing, x, v);
        return 1;
    }

    public int ticks(int n) {
        if (!within(n, 1, 100)) {
            return OUTSIDE;
        }
        if (!isThing(up.thing) || up.fell(told.numbers) || !hasLumps(up.thing)) {
            return NOT;
        }
        int went = 0;
        while (went < n && up.t < TICKS && !up.fell(told.numbers)) {
            up.tick(told.things[up.thing], told.numbers, true, 0);
            went++;
        }
        return went;
    }

    public int now(int what) {
        if (!within(what, 0, 6)) {
            return OUTSIDE;
        }
        if (!isThing(up.thing)) {
            return NOT;
        }
        switch (what) {
            case 0: return up.x + 1000000;
            case 1: return up.v + 1000000;
            case 2: return up.f + 1000;
            case 3: return up.t;
            case 4: return up.m + 1000;
            case 5: return up.fell(told.numbers) ? 1 : 0;
            default: return up.thing;
        }
    }

    public int keep(int k) {
        if (!within(k, 0, IMAGES - 1)) {
            return UNKNOWN;
        }
        if (!isThing(up.thing)) {
            return NOT;
        }
        images[k].copy(up);
        return 1;
    }

    public int back(int k) {
        if (!within(k, 0, IMAGES - 1)) {
            return UNKNOWN;
        }
        if (!isThing(images[k].thing)) {
            return NOT;
        }
        up.copy(images[k]);
        return up.t;
    }

    // ---- how long

    public int kept(int thing, int x, int v) {
        int refusal = refusal(thing, within(x, -FAR, FAR) && within(v, -FAST, FAST));
        if (refusal != 0) {
            return refusal;
        }
        keeper.takeRule(told.numbers);
        return keeper.lasts(told.things[thing], x, v, TICKS);
    }

    public int steady(int thing, int k) {
        int refusal = refusal(thing, within(k, 0, GREAT));
        if (refusal != 0) {
            return refusal;
        }
        keeper.takeRule(told.numbers);
        return keeper.leastFrom(told.things[thing], k);
    }

    public int line(int k) {
        if (!within(k, 0, GREAT)) {
            return OUTSIDE;
        }
        keeper.takeRule(told.numbers);
        return keeper.shortestSteady(k);
    }

    public int best(int thing, int k, int what) {
        int refusal = refusal(thing, within(k, 0, 4) && within(what, 0, 2));
        if (refusal != 0) {
            return refusal;
        }
        keeper.takeRule(told.numbers);
        return keeper.bestRule(told.things[thing], k, what);
    }

    public int odds(int thing, int x, int n, int w, int p, int part) {
        boolean asTold = within(x, -FAR, FAR) && within(n, 0, 6) && within(w, 0, 99)
                && within(p, 0, 5) && within(part, 0, 1);
        int refusal = refusal(thing, asTold);
        if (refusal != 0) {
            return refusal;
        }
        keeper.takeRule(told.numbers);
        return lowestTerms(keeper.chances(told.things[thing], x, n, w, p), n, part);
    }

    public int stands(int thing, int x) {
        int refusal = refusal(thing, within(x, -FAR, FAR));
        if (refusal != 0) {
            return refusal;
        }
        keeper.takeRule(told.numbers);
        return keeper.leastShake(told.things[thing], x);
    }

    public int two(int one, int x, int other, int y, int p, int q) {
        if (!isThing(one) || !isThing(other)) {
            return UNKNOWN;
        }
        if (!within(x, -FAR, FAR) || !within(y, -FAR, FAR) || !within(p, 1, 9) || !within(q, 1, 9)) {
            return OUTSIDE;
        }
        if (!hasLumps(one) || !hasLumps(other)) {
            return NOT;
        }
        keeper.takeRule(told.numbers);
        keeper.first.start(one, x, 0);
        keeper.second.start(other, y, 0);
        return keeper.bothLast(told.things[one], told.things[other], p, q);
    }

    // ---- films

    public int film(int x, int m) {
        if (!within(x, -FAR, FAR) || !within(m, -MOVE, MOVE)) {
            return OUTSIDE;
        }
        if (rows.count >= ROWS) {
            return FULL;
        }
        rows.append(x, m);
        return rows.count;
    }

    public int wind() {
        int had = rows.count;
        rows.count = 0;
        return had;
    }

    public int fits(int what) {
        if (!within(what, 0, 3)) {
            return OUTSIDE;
        }
        rows.seek(told.numbers, 0);
        switch (what) {
            case 0: return rows.fitting;
            case 1: return rows.firstLate;
            case 2: return rows.firstA;
            default: return rows.firstB;
        }
    }

    public int next(int x, int what) {
        if (!within(x, -FAR, FAR) || !within(what, 0, 1)) {
            return OUTSIDE;
        }
        rows.seek(told.numbers, x);
        if (rows.fitting == 0) {
            return NONE;
        }
        return 1000 + (what == 0 ? rows.leastNext : rows.mostNext);
    }

    // ---- evenings, houses

    public int plan(int n, int i) {
        if (!within(n, 1, 5) || !within(i, NONE, n - 1)) {
            return OUTSIDE;
        }
        keeper.takeRule(told.numbers);
        evenings.tryAll(told, keeper);
        int plan = evenings.firstBest(10 * told.numbers[LATE], n);
        if (plan == NONE) {
            return NONE;
        }
        return i == NONE ? evenings.leastTenths : Evenings.thingOf(plan, n, i);
    }

    public int room(int cell, int draught, int lamp) {
        if (!within(cell, 0, CELLS - 1)) {
            return UNKNOWN;
        }
        if (!within(draught, 0, DRAUGHT) || !within(lamp, 0, HEIGHT)) {
            return OUTSIDE;
        }
        int had = house.draughts[cell];
        house.draughts[cell] = draught;
        house.lamps[cell] = lamp;
        return had;
    }

    public int way(int thing, int from, int to, int d, int what) {
        if (!isThing(thing) || !within(from, 0, CELLS - 1) || !within(to, 0, CELLS - 1)) {
            return UNKNOWN;
        }
        if (!within(d, 0, DRAUGHT) || !within(what, 0, 1)) {
            return OUTSIDE;
        }
        if (!hasLumps(thing)) {
            return NOT;
        }
        house.walk(from, d, told.things[thing].tallest);
        return what == 0 ? house.steps[to] : house.together[to];
    }

    public int count(int what) {
        if (!within(what, 0, 11)) {
            return OUTSIDE;
        }
        switch (what) {
            case 10: return rows.count;
            case 11: return text.length;
            default: return told.numbers[what];
        }
    }

    // ---- what the calls share

    private static boolean within(int number, int least, int most) {
        return number >= least && number <= most;
    }

    private static boolean isThing(int thing) {
        return within(thing, 0, THINGS - 1);
    }

    private boolean hasLumps(int thing) {
        return told.things[thing].lumps > 0;
    }

    /** The first refusal that fits a call on one THING; 0: none does. */
    private int refusal(int thing, boolean asTold) {
        if (!isThing(thing)) {
            return UNKNOWN;
        }
        if (!asTold) {
            return OUTSIDE;
        }
        return hasLumps(thing) ? 0 : NOT;
    }

    private static int limited(int number, int most) {
        if (number > most) {
            return most;
        }
        return number < -most ? -most : number;
    }

    /** What a man wants to move by who sees this; FLOORS are not his business yet. */
    private static int wish(int[] rule, int seen, int before) {
        if (Math.abs(seen) < rule[DEAD]) {
            return 0;
        }
        return limited((rule[A] * seen + rule[B] * (seen - before)) / 10, rule[REACH]);
    }

    /** A part of 10 to the nth: 2 and 5 alone can be struck out of it, n times each. */
    private static int lowestTerms(int tenths, int n, int part) {
        int above = tenths;
        int below = power(10, n);
        for (int i = 0; i < n; i++) {
            if (above % 2 == 0) {
                above /= 2;
                below /= 2;
            }
            if (above % 5 == 0) {
                above /= 5;
                below /= 5;
            }
        }
        return part == 0 ? above : below;
    }

    private static int power(int base, int n) {
        int power = 1;
        for (int i = 0; i < n; i++) {
            power *= base;
        }
        return power;
    }

    // ---- the parts

    private static final class Thing {
        int kind = PLAIN;
        int by = 0;
        int lumps = 0;
        int longness = NONE;
        int tallest = 0;
        final int[] heights = new int[LUMPS];
        final int[] weights = new int[LUMPS];

        void become(int newKind, int newBy) {
            kind = newKind;
            by = newBy;
        }

        void addLump(int height, int weight) {
            if (lumps >= LUMPS) {
                return;
            }
            heights[lumps] = height;
            weights[lumps] = weight;
            lumps++;
            measure();
        }

        void strip() {
            lumps = 0;
            measure();
        }

        private void measure() {
            int squares = 0;
            int moments = 0;
            tallest = 0;
            for (int i = 0; i < lumps; i++) {
                squares += heights[i] * heights[i] * weights[i];
                moments += heights[i] * weights[i];
                tallest = Math.max(tallest, heights[i]);
            }
            longness = moments > 0 ? squares / moments : NONE;
        }

        /** By what V is more in a TICK of that PULL, WIND aside. */
        int leaning(int x, int v, int pull) {
            int leaning = longness > 0 ? x * pull / longness : 0;
            if (kind == TURNING) {
                return leaning - x * by / 10;
            }
            if (kind == WET) {
                return leaning + v * by / 20;
            }
            return leaning;
        }

        /** How many TICKS later than others it is seen. */
        int seenLater() {
            return kind == JOINTED ? by : 0;
        }
    }

    private static final class Told {
        final Thing[] things = new Thing[THINGS];
        final int[] numbers = new int[NUMBERS];

        Told() {
            for (int i = 0; i < THINGS; i++) {
                things[i] = new Thing();
            }
            System.arraycopy(AT_FIRST, 0, numbers, 0, NUMBERS);
        }
    }

    /** THE TEXT, and its LINES as they were last read. */
    private static final class Text {
        private static final int END = 0, WORD = 1, DIGITS = 2, OTHER = 3;
        private static final int THING_LINE = 0, LUMP_LINE = 1, BARE_LINE = 2, NUMBERS_LINE = 3;
        private static final int SEMICOLON = 59, BLANK = 32, LONGEST = 5;

        final int[] bytes = new int[BYTES];
        int length = 0;
        int lines = 0;

        private final int[] kinds = new int[LINES];
        private final int[] numbers = new int[LINES * LONGEST];
        private int filled = 0;
        /** For a LINE of numbers: where the first of them goes. */
        private final int[] places = new int[LINES];
        private final int[] lumps = new int[THINGS];

        private int token = END;
        private int from = 0;
        private int behind = 0;

        void append(int oneByte) {
            if (length < BYTES) {
                bytes[length] = oneByte;
                length++;
            }
        }

        int firstFault(Told told) {
            for (int i = 0; i < THINGS; i++) {
                lumps[i] = told.things[i].lumps;
            }
            behind = 0;
            for (int i = 0; i < LINES; i++) {
                lines = i;
                filled = i * LONGEST;
                readToken();
                if (!readLine()) {
                    return from;
                }
                if (token == END) {
                    lines = i + 1;
                    return NONE;
                }
                if (token != OTHER || bytes[from] != SEMICOLON) {
                    return from;
                }
            }
            // The ; behind the last LINE that there may be.
            return from;
        }

        private void readToken() {
            from = behind;
            while (from < length && bytes[from] == BLANK) {
                from++;
            }
            token = from < length ? sort(bytes[from]) : END;
            behind = Math.min(from + 1, length);
            if (token == WORD || token == DIGITS) {
                while (behind < length && sort(bytes[behind]) == token) {
                    behind++;
                }
            }
        }

        private static int sort(int oneByte) {
            if (oneByte >= 'a' && oneByte <= 'z') {
                return WORD;
            }
            return oneByte >= '0' && oneByte <= '9' ? DIGITS : OTHER;
        }

        private boolean says(String word) {
            if (token != WORD || behind - from != word.length()) {
                return false;
            }
            for (int i = 0; i < word.length(); i++) {
                if (bytes[from + i] != word.charAt(i)) {
                    return false;
                }
            }
            return true;
        }

        /** Reads a LINE, or as far as the first TOKEN that cannot stand in it. */
        private boolean readLine() {
            if (says("thing")) {
                return readThing();
            }
            if (says("lump")) {
                return readLump();
            }
            if (says("bare")) {
                return readBare();
            }
            if (says("man")) {
                return readNumbers(A, DEAD);
            }
            int place = placeNamed();
            return place != NONE && readNumbers(place, place);
        }

        private int placeNamed() {
            if (says("floor")) {
                return FLOOR;
            }
            if (says("pull")) {
                return PULL;
            }
            if (says("bound")) {
                return BOUND;
            }
            if (says("wind")) {
                return WIND;
            }
            return says("shake") ? SHAKE : NONE;
        }

        private boolean readThing() {
            kinds[lines] = THING_LINE;
            readToken();
            if (!readNumber(0, THINGS - 1)) {
                return false;
            }
            int kind = kindNamed();
            if (kind == NONE) {
                return false;
            }
            store(kind);
            readToken();
            if (kind == PLAIN) {
                store(0);
                return true;
            }
            return readNumber(1, BY);
        }

        private int kindNamed() {
            if (says("plain")) {
                return PLAIN;
            }
            if (says("turning")) {
                return TURNING;
            }
            if (says("wet")) {
                return WET;
            }
            return says("jointed") ? JOINTED : NONE;
        }

        private boolean readLump() {
            kinds[lines] = LUMP_LINE;
            readToken();
            int thing = number();
            if (!isThing(thing) || lumps[thing] >= LUMPS) {
                return false;
            }
            lumps[thing]++;
            return readNumber(0, THINGS - 1) && readNumber(1, HEIGHT) && readNumber(1, WEIGHT);
        }

        private boolean readBare() {
            kinds[lines] = BARE_LINE;
            readToken();
            int thing = number();
            if (!isThing(thing)) {
                return false;
            }
            lumps[thing] = 0;
            return readNumber(0, THINGS - 1);
        }

        private boolean readNumbers(int first, int last) {
            kinds[lines] = NUMBERS_LINE;
            places[lines] = first;
            readToken();
            for (int place = first; place <= last; place++) {
                if (!readNumber(LEAST[place], MOST[place])) {
                    return false;
                }
            }
            return true;
        }

        private boolean readNumber(int least, int most) {
            int number = number();
            if (number == NONE || !within(number, least, most)) {
                return false;
            }
            store(number);
            readToken();
            return true;
        }

        /** The number that the TOKEN is; NONE: it is none, or one of too many digits. */
        private int number() {
            if (token != DIGITS || behind - from > 3) {
                return NONE;
            }
            int number = 0;
            for (int i = from; i < behind; i++) {
                number = 10 * number + bytes[i] - '0';
            }
            return number;
        }

        private void store(int number) {
            if (filled < numbers.length) {
                numbers[filled] = number;
                filled++;
            }
        }

        /** Does the LINES; only behind a firstFault that found none. */
        void tell(Told told) {
            for (int i = 0; i < lines; i++) {
                int at = i * LONGEST;
                if (kinds[i] == NUMBERS_LINE) {
                    int many = places[i] == A ? LONGEST : 1;
                    System.arraycopy(numbers, at, told.numbers, places[i], many);
                } else if (isThing(numbers[at])) {
                    tellThing(told.things[numbers[at]], kinds[i], at);
                }
            }
        }

        private void tellThing(Thing thing, int kind, int at) {
            if (kind == THING_LINE) {
                thing.become(numbers[at + 1], numbers[at + 2]);
            } else if (kind == LUMP_LINE) {
                thing.addLump(numbers[at + 1], numbers[at + 2]);
            } else {
                thing.strip();
            }
        }
    }

    /** A THING being kept up: where it is and where it was. */
    private static final class Balance {
        /** A power of two above the 16 TICKS that LATE, a joint and BEFORE look back at most. */
        private static final int TRAIL = 32;

        int thing = NONE;
        int x = 0;
        int v = 0;
        int f = 0;
        int t = 0;
        int m = 0;
        private final int[] trail = new int[TRAIL];

        void start(int which, int fromX, int fromV) {
            thing = which;
            x = fromX;
            v = fromV;
            f = 0;
            t = 0;
            m = 0;
            trail[0] = fromX;
        }

        void copy(Balance other) {
            thing = other.thing;
            x = other.x;
            v = other.v;
            f = other.f;
            t = other.t;
            m = other.m;
            System.arraycopy(other.trail, 0, trail, 0, TRAIL);
        }

        boolean fell(int[] rule) {
            return x > rule[BOUND] || x < -rule[BOUND];
        }

        void tick(Thing what, int[] rule, boolean minded, int gust) {
            int pull = t % 2 == 0 ? rule[PULL] + rule[SHAKE] : rule[PULL] - rule[SHAKE];
            m = minded ? move(what, rule) : 0;
            v += what.leaning(x, v, pull) + rule[WIND] + gust;
            x += v - m;
            f += m;
            t++;
            trail[t & TRAIL - 1] = x;
        }

        private int move(Thing what, int[] rule) {
            int at = t - rule[LATE] - what.seenLater();
            int wanted = wish(rule, was(at), was(at - 1));
            return limited(f + wanted, rule[FLOOR]) - f;
        }

        private int was(int tick) {
            return tick > 0 ? trail[tick & TRAIL - 1] : trail[0];
        }

        /** Whether all that the next TICKS hang on, so far back, is as it was at the mark. */
        boolean isAgain(Balance mark, int farBack) {
            if (x != mark.x || v != mark.v || f != mark.f || (t - mark.t) % 2 != 0) {
                return false;
            }
            for (int i = 1; i <= farBack; i++) {
                if (was(t - i) != mark.was(mark.t - i)) {
                    return false;
                }
            }
            return true;
        }
    }

    /** Tries how long THINGS are kept, by a rule that may differ from what is told. */
    private static final class Keeper {
        private static final int MARK = 4;

        final int[] rule = new int[NUMBERS];
        final Balance first = new Balance();
        final Balance second = new Balance();
        private final Thing pole = new Thing();

        void takeRule(int[] numbers) {
            System.arraycopy(numbers, 0, rule, 0, NUMBERS);
        }

        /**
         * How many TICKS it is kept, minded, at most so many. What is as it was before goes round
         * for ever: it is marked at TICKS ever farther apart, so that every round is found.
         */
        int lasts(Thing thing, int x, int v, int most) {
            int farBack = rule[LATE] + thing.seenLater() + 1;
            int mark = MARK;
            first.start(0, x, v);
            for (int i = 0; i < most && !first.fell(rule); i++) {
                if (i > MARK && first.isAgain(second, farBack)) {
                    return most;
                }
                if (i == mark) {
                    second.copy(first);
                    mark *= 2;
                }
                first.tick(thing, rule, true, 0);
            }
            return first.t;
        }

        int leastFrom(Thing thing, int k) {
            int least = TICKS;
            for (int x = leftmost(k); x <= k; x++) {
                least = Math.min(least, lasts(thing, x, 0, TICKS));
            }
            return least;
        }

        /** Without WIND all goes to the left as it goes to the right. */
        private int leftmost(int k) {
            return rule[WIND] == 0 ? 0 : -k;
        }

        int shortestSteady(int k) {
            int shortest = NONE;
            for (int height = HEIGHT; height >= 1; height--) {
                pole.strip();
                pole.addLump(height, 1);
                if (!isSteady(pole, k)) {
                    return shortest;
                }
                shortest = height;
            }
            return shortest;
        }

        private boolean isSteady(Thing thing, int k) {
            int least = leftmost(k);
            for (int x = k; x >= least; x--) {
                if (lasts(thing, x, 0, TICKS) < TICKS) {
                    return false;
                }
            }
            return true;
        }

        int bestRule(Thing thing, int k, int what) {
            int best = NONE;
            int bestA = 0;
            int bestB = 0;
            int perfect = TICKS * (2 * k + 1);
            for (int a = 0; a <= RULES && best < perfect; a++) {
                for (int b = 0; b <= RULES && best < perfect; b++) {
                    rule[A] = a;
                    rule[B] = b;
                    int together = together(thing, k, best);
                    if (together > best) {
                        best = together;
                        bestA = a;
                        bestB = b;
                    }
                }
            }
            if (what == 0) {
                return best;
            }
            return what == 1 ? bestA : bestB;
        }

        /** What is KEPT together; once it cannot be above the best, something not above that. */
        private int together(Thing thing, int k, int best) {
            int together = TICKS * (2 * k + 1);
            for (int x = k; x >= -k && together > best; x--) {
                together -= TICKS - lasts(thing, x, 0, TICKS);
            }
            return together;
        }

        /** Of 10 to the nth how many chances leave it up. */
        int chances(Thing thing, int x, int n, int w, int p) {
            int chances = 0;
            int winds = power(3, n);
            for (int code = 0; code < winds; code++) {
                first.start(0, x, 0);
                int weight = 1;
                int rest = code;
                for (int i = 0; i < n && !first.fell(rule); i++) {
                    int gust = rest % 3 - 1;
                    weight *= gust == 0 ? 10 - 2 * p : p;
                    rest /= 3;
                    first.tick(thing, rule, true, w * gust);
                }
                if (!first.fell(rule)) {
                    chances += weight;
                }
            }
            return chances;
        }

        int leastShake(Thing thing, int x) {
            for (int shake = 0; shake <= MOST[SHAKE]; shake++) {
                rule[SHAKE] = shake;
                if (standsAlone(thing, x)) {
                    return shake;
                }
            }
            return NONE;
        }

        private boolean standsAlone(Thing thing, int x) {
            first.start(0, x, 0);
            for (int i = 0; i < TICKS && !first.fell(rule); i++) {
                first.tick(thing, rule, false, 0);
            }
            return first.t == TICKS;
        }

        /** From where first and second are; the first is minded p TICKS, then the second q. */
        int bothLast(Thing one, Thing other, int p, int q) {
            int round = Math.max(1, p + q);
            for (int i = 0; i < TICKS && !first.fell(rule) && !second.fell(rule); i++) {
                boolean mindsFirst = i % round < p;
                first.tick(one, rule, mindsFirst, 0);
                second.tick(other, rule, !mindsFirst, 0);
            }
            return first.t;
        }
    }

    private static final class Evenings {
        private static final int LATES = LATEST + 1;
        private static final int START = 10, ENOUGH = 40;

        int leastTenths = NONE;
        /** By THING and LATE: by how many tenths one learns; NONE: nothing to try. */
        private final int[] learned = new int[THINGS * LATES];

        void tryAll(Told told, Keeper keeper) {
            for (int thing = 0; thing < THINGS; thing++) {
                for (int late = 0; late < LATES; late++) {
                    keeper.rule[LATE] = late;
                    learned[thing * LATES + late] = lesson(told.things[thing], keeper);
                }
            }
        }

        private static int lesson(Thing thing, Keeper keeper) {
            if (thing.longness <= 0) {
                return NONE;
            }
            if (keeper.lasts(thing, START, 0, ENOUGH) < ENOUGH) {
                return 0;
            }
            return Math.max(1, 200 / (thing.longness + 20));
        }

        /** A plan is a number of n digits to the base of THINGS, so the least is the first. */
        int firstBest(int tenths, int n) {
            int best = NONE;
            int plans = power(THINGS, n);
            for (int plan = 0; plan < plans; plan++) {
                int left = tenthsBehind(tenths, plan, n);
                if (left != NONE && (best == NONE || left < leastTenths)) {
                    best = plan;
                    leastTenths = left;
                }
            }
            return best;
        }

        private int tenthsBehind(int tenths, int plan, int n) {
            int left = tenths;
            for (int i = 0; i < n; i++) {
                int by = learned[thingOf(plan, n, i) * LATES + Math.min(LATEST, left / 10)];
                if (by == NONE) {
                    return NONE;
                }
                left = Math.max(0, left - by);
            }
            return left;
        }

        static int thingOf(int plan, int n, int i) {
            int rest = plan;
            for (int later = i + 1; later < n; later++) {
                rest /= THINGS;
            }
            return rest % THINGS;
        }
    }

    private static final class Film {
        int count = 0;
        int fitting = 0;
        int firstLate = NONE;
        int firstA = NONE;
        int firstB = NONE;
        int leastNext = 0;
        int mostNext = 0;
        /** One place more than there are rows: for the X that may come next. */
        private final int[] xs = new int[ROWS + 1];
        private final int[] ms = new int[ROWS];
        private final int[] rule = new int[NUMBERS];

        void append(int x, int m) {
            if (count < ROWS) {
                xs[count] = x;
                ms[count] = m;
                count++;
            }
        }

        /** Looks through all rules, in their order, for those that fit. */
        void seek(int[] numbers, int nextX) {
            System.arraycopy(numbers, 0, rule, 0, NUMBERS);
            xs[count] = nextX;
            fitting = 0;
            firstLate = NONE;
            firstA = NONE;
            firstB = NONE;
            for (int late = 0; late <= LATEST; late++) {
                for (int a = 0; a <= RULES; a++) {
                    for (int b = 0; b <= RULES; b++) {
                        rule[LATE] = late;
                        rule[A] = a;
                        rule[B] = b;
                        if (isFit()) {
                            noteFit();
                        }
                    }
                }
            }
        }

        private boolean isFit() {
            for (int t = 0; t < count; t++) {
                if (moveIn(t) != ms[t]) {
                    return false;
                }
            }
            return true;
        }

        private int moveIn(int t) {
            int at = t - rule[LATE];
            return wish(rule, xs[Math.max(0, at)], xs[Math.max(0, at - 1)]);
        }

        private void noteFit() {
            int move = moveIn(count);
            if (fitting == 0) {
                firstLate = rule[LATE];
                firstA = rule[A];
                firstB = rule[B];
                leastNext = move;
                mostNext = move;
            }
            leastNext = Math.min(leastNext, move);
            mostNext = Math.max(mostNext, move);
            fitting++;
        }
    }

    private static final class House {
        final int[] draughts = new int[CELLS];
        final int[] lamps = new int[CELLS];
        /** Of the last walk, by CELL; NONE: no way goes there. */
        final int[] steps = new int[CELLS];
        final int[] together = new int[CELLS];
        private final int[] reached = new int[CELLS];
        private int known = 0;

        void walk(int start, int most, int tallest) {
            for (int cell = 0; cell < CELLS; cell++) {
                steps[cell] = NONE;
                together[cell] = NONE;
            }
            known = 0;
            if (isOpen(start, most, tallest)) {
                enter(start, 0, 0);
            }
            // CELLS are left in the order of their steps, so what a CELL has is final by then.
            for (int i = 0; i < CELLS && i < known; i++) {
                for (int side = 0; side < 4; side++) {
                    int cell = beside(reached[i], side);
                    if (cell != NONE && isOpen(cell, most, tallest)) {
                        enter(cell, steps[reached[i]] + 1, together[reached[i]]);
                    }
                }
            }
        }

        private boolean isOpen(int cell, int most, int tallest) {
            boolean isHit = lamps[cell] != 0 && lamps[cell] <= tallest;
            return draughts[cell] <= most && !isHit;
        }

        private void enter(int cell, int step, int before) {
            int sum = before + draughts[cell];
            if (steps[cell] == NONE && known < CELLS) {
                steps[cell] = step;
                together[cell] = sum;
                reached[known] = cell;
                known++;
            } else if (steps[cell] == step) {
                together[cell] = Math.min(together[cell], sum);
            }
        }

        private static int beside(int cell, int side) {
            int column = cell % SIDE;
            switch (side) {
                case 0: return cell >= SIDE ? cell - SIDE : NONE;
                case 1: return column > 0 ? cell - 1 : NONE;
                case 2: return column < SIDE - 1 ? cell + 1 : NONE;
                default: return cell < CELLS - SIDE ? cell + SIDE : NONE;
            }
        }
    }
}
