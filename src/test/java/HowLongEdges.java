/** KEPT to TWO: each sentence of the document that names a bound there. */
public final class HowLongEdges {
    private static final int NONE = OnChin.NONE;
    /** Not pulled below X 300, nobody moves: V stays. */
    private static final String FREE = "lump 0 300 1;pull 1;bound 299;man 0 0 0 1 0";
    /** LONG 1 and PULL 1, nobody moves: from X 1 on it is at 2, 5, 13, 34, 89, 233. */
    private static final String STILL = "lump 0 1 1;pull 1;man 0 0 0 1 0";

    private final Checks checks = new Checks();

    public static void main(String[] args) {
        HowLongEdges tests = new HowLongEdges();
        tests.keptAsItBegins();
        tests.keptAtMost();
        tests.keptStartsAnew();
        tests.steadyEnds();
        tests.steadyOfK();
        tests.lineEnds();
        tests.lineFromWhichOn();
        tests.lineOfPlainOnes();
        tests.bestEnds();
        tests.bestOfSeveral();
        tests.bestGoesByTheRest();
        tests.oddsOfNoTicks();
        tests.oddsInLowestTerms();
        tests.oddsOfTenths();
        tests.oddsOfFallen();
        tests.oddsByWindToo();
        tests.standsEnds();
        tests.standsWithNobody();
        tests.twoAsTheyBegin();
        tests.twoAtMost();
        tests.twoInTurns();
        tests.nothingIsToldByAsking();
        tests.checks.end();
    }

    private void due(String call, int got, int want) {
        checks.due(call, got, want);
    }

    private void dueKept(String text, int x, int v, int ticks) {
        due("kept " + x + " " + v + " of " + text, Checks.told(text).kept(0, x, v), ticks);
    }

    private void keptAsItBegins() {
        checks.sentence("KEPT: 0, if it has FALLEN as it begins");
        for (int bound : new int[] {1, 2, 100, 998}) {
            String text = STILL + ";bound " + bound;
            for (int side = -1; side <= 1; side += 2) {
                dueKept(text, side * (bound + 1), 0, 0);
                dueKept(text, side * (bound + 1), -side * 99, 0);
                dueKept(text, side * bound, 0, 1);
                dueKept(text, side * 999, 0, 0);
            }
        }
        dueKept(STILL + ";bound 999", 999, 99, 1);
        dueKept(STILL + ";bound 999", -999, -99, 1);
        dueKept(STILL + ";bound 999", 0, 0, 400);
    }

    private void keptAtMost() {
        checks.sentence("how many TICKS go till it has FALLEN; 400 at most");
        // BOUND 299 is passed in the TICK that brings X to 300
        for (int x = 298; x >= -102; x -= 20) {
            dueKept(FREE, x, 1, Math.min(400, 300 - x));
            dueKept(FREE, -x, -1, Math.min(400, 300 - x));
        }
        dueKept(FREE, -99, 1, 399);
        dueKept(FREE, -100, 1, 400);
        dueKept(FREE, -101, 1, 400);
        dueKept(FREE, 299, 1, 1);
        dueKept(FREE, 299, 0, 400);
        dueKept(FREE, -299, 99, 7);
    }

    private void keptStartsAnew() {
        checks.sentence("KEPT: from an X and a V: F 0, TICK 0, whatever is kept up");
        OnChin c = Checks.told("lump 0 100 5;shake 7;floor 40");
        int ticks = c.kept(0, 30, 0);
        c.begin(0, 30, 0);
        due("as ticks go", c.ticks(100), ticks);
        due("FALLEN", c.now(5), 1);
        for (int i = 0; i < 3; i++) {
            due("asked again", c.kept(0, 30, 0), ticks);
            c.begin(0, 10 + i, 3);
            c.ticks(2 * i + 1);
        }
    }

    private void dueSteady(String text, int k, int ticks) {
        due("steady " + k + " of " + text, Checks.told(text).steady(0, k), ticks);
    }

    private void steadyEnds() {
        checks.sentence("STEADY for k: the least KEPT from all X from less than nothing k to k");
        // the left end alone, the right end alone: with k less by 1 it is more
        String[] left = {"man 8 12 1 34 1;lump 0 52 1;wind 1;pull 7;bound 39",
            "man 16 7 1 33 0;lump 0 236 1;wind 1;pull 10;bound 56"};
        dueSteady(left[0], 3, 11);
        dueKept(left[0], -3, 0, 11);
        dueSteady(left[0], 2, 12);
        dueSteady(left[1], 20, 7);
        dueKept(left[1], -20, 0, 7);
        dueSteady(left[1], 19, 9);
        String[] right = {"man 16 20 1 18 1;lump 0 205 1;wind 2;pull 4;bound 76", STILL + ";wind 1"};
        dueSteady(right[0], 2, 13);
        dueKept(right[0], 2, 0, 13);
        dueSteady(right[0], 1, 15);
        dueSteady(right[1], 0, 6);
        dueSteady(right[1], 1, 5);
        dueKept(right[1], -1, 0, 400);
        // one between alone
        String between = "man 17 4 0 24 5;lump 0 53 1;wind 1;pull 31;bound 19";
        dueKept(between, -3, 0, 400);
        dueKept(between, 3, 0, 7);
        dueSteady(between, 3, 6);
    }

    private void steadyOfK() {
        checks.sentence("k 0 .. 20; V being 0");
        dueSteady(FREE, 0, 400);
        dueSteady(FREE, 20, 400);
        dueSteady(FREE + ";bound 20", 20, 400);
        dueSteady(FREE + ";bound 19", 20, 0);
        dueSteady(FREE + ";bound 19", 19, 400);
        dueSteady(FREE + ";bound 1", 1, 400);
        dueSteady(FREE + ";bound 1", 2, 0);
        dueSteady(STILL, 0, 400);
        dueSteady(STILL, 1, 6);
        dueSteady(STILL, 20, 3);
        dueSteady(STILL + ";bound 20", 20, 1);
    }

    private void dueLine(String text, int k, int height) {
        due("line " + k + " of " + text, Checks.told(text).line(k), height);
    }

    private void lineEnds() {
        checks.sentence("LINE for k: the least HEIGHT (1 .. 300); none");
        // nobody moves: X k is not pulled by LONG above PULL times k, and lost below
        dueLine("man 0 0 0 1 0", 0, 1);
        dueLine("man 0 0 0 1 0;pull 1", 1, 2);
        dueLine("man 0 0 0 1 0;pull 1", 20, 21);
        dueLine("man 0 0 0 1 0;pull 23", 13, 300);
        dueLine("man 0 0 0 1 0;pull 25", 12, NONE);
        dueLine("man 0 0 0 1 0;pull 99", 3, 298);
        dueLine("man 0 0 0 1 0;pull 99", 4, NONE);
        dueLine("man 0 0 0 1 0;pull 1;bound 1", 2, NONE);
        dueLine("man 0 0 0 1 0;wind 1", 0, NONE);
        dueLine("bound 19", 20, NONE);
    }

    private void lineFromWhichOn() {
        checks.sentence("from which on all (to 300) .. are STEADY for k by 400");
        String[] texts = {"man 20 29 1 12 3;pull 3;bound 28", "man 16 4 0 60 2;pull 25;bound 296",
            "man 18 3 1 47 1;pull 4;bound 120"};
        int[][] lines = {{4, 46, 27}, {4, 276, 156}, {1, 253, 236}};
        for (int i = 0; i < texts.length; i++) {
            int k = lines[i][0];
            dueLine(texts[i], k, lines[i][1]);
            dueSteady(texts[i] + ";lump 0 " + lines[i][1] + " 1", k, 400);
            dueSteady(texts[i] + ";lump 0 300 1", k, 400);
            OnChin c = Checks.told(texts[i] + ";lump 0 " + (lines[i][1] - 1) + " 1");
            due("not the one below", Math.min(c.steady(0, k), 399), c.steady(0, k));
            // a shorter one is, but not all from it on
            dueSteady(texts[i] + ";lump 0 " + lines[i][2] + " 1", k, 400);
        }
    }

    private void lineOfPlainOnes() {
        checks.sentence("PLAIN THINGS of one LUMP: what THINGS there are does not matter");
        OnChin c = Checks.told("man 0 0 0 1 0;pull 5");
        due("line", c.line(3), 16);
        Checks.tell(c, "thing 0 wet 9;lump 0 3 3;thing 1 jointed 9;lump 1 7 7;thing 2 turning 9;lump 2 300 1");
        due("line", c.line(3), 16);
        c.begin(0, 3, 0);
        c.ticks(1);
        due("line", c.line(3), 16);
        due("LUMPS stay", c.thing(0, 4), 3);
        due("X stays", c.now(3), 1);
        checks.sentence("STEADY for k by 400: one that falls in TICK 400 is, one in TICK 399 is not");
        // REACH 3: FLOOR is at its end shortly ahead of that
        dueLine("man 33 38 0 3 0;pull 48;bound 43;floor 394", 8, NONE);
        dueSteady("man 33 38 0 3 0;pull 48;bound 43;floor 394;lump 0 300 1", 8, 399);
        dueLine("man 33 38 0 3 0;pull 48;bound 43;floor 395", 8, 289);
        dueSteady("man 33 38 0 3 0;pull 48;bound 43;floor 395;lump 0 300 1", 8, 400);
        dueLine("man 33 38 0 3 0;pull 48;bound 43;floor 394", 7, 289);
    }

    private void dueBest(String text, int k, int together, int a, int b) {
        OnChin c = Checks.told(text);
        due("KEPT together, " + text, c.best(0, k, 0), together);
        due("A, " + text, c.best(0, k, 1), a);
        due("B, " + text, c.best(0, k, 2), b);
    }

    private void bestEnds() {
        checks.sentence("BEST: A and B (0 .. 20 each) by which KEPT .. is most together");
        dueBest("man 0 0 1 50 3;lump 0 47 1;pull 53;bound 66;wind 2", 2, 422, 20, 20);
        dueBest("man 40 40 1 50 3;lump 0 47 1;pull 53;bound 66;wind 2", 2, 422, 20, 20);
        dueBest("man 0 0 0 56 0;lump 0 141 1;pull 20;bound 26;wind 1", 2, 101, 20, 0);
        dueBest("man 0 0 1 11 0;lump 0 113 1;pull 54;bound 13;wind 1", 4, 833, 0, 20);
        checks.sentence("BEST: 0 .. 20: A or B of 21 would be better, but is not asked");
        dueBest("man 0 0 0 40 0;lump 0 16 1;pull 38;bound 98", 2, 424, 20, 20);
        dueBest("man 0 0 0 51 2;lump 0 188 1;pull 56;bound 56;wind 2", 2, 62, 20, 0);
        dueBest("man 0 0 1 27 3;lump 0 91 1;pull 45;bound 63;wind 1", 3, 447, 3, 20);
        checks.sentence("BEST for a THING and k (0 .. 4)");
        for (int k = 0; k <= 4; k++) {
            dueBest(FREE, k, 400 * (2 * k + 1), 0, 0);
        }
        dueBest(FREE + ";bound 3", 4, 2800, 0, 0);
        // k 0: X 0 alone, which WIND carries away
        dueBest("man 0 0 0 22 2;lump 0 200 1;pull 14;bound 82;wind 3", 0, 13, 12, 5);
        dueBest("man 0 0 2 17 0;lump 0 38 1;pull 49;bound 95;wind 1", 0, 6, 20, 20);
        // others fall in TICK 399, when FLOOR is at its end: they are not the best
        dueBest("man 0 0 1 5 1;lump 0 281 1;pull 72;bound 43;floor 390", 4, 3600, 13, 0);
        dueBest("man 0 0 1 5 0;lump 0 272 1;pull 81;bound 10;floor 393", 4, 3600, 13, 0);
        // X -1, 0, 1 alone have not FALLEN as they begin, and do at once
        dueBest(STILL + ";wind 20;bound 1;pull 99", 4, 3, 0, 0);
    }

    private void bestOfSeveral() {
        checks.sentence("of several the least A, then B");
        dueBest("man 0 0 2 8 0;lump 0 270 1;pull 47;bound 17;wind 1", 3, 57, 8, 20);
        dueBest("man 0 0 0 40 0;lump 0 123 1;pull 4;bound 35;wind 2", 2, 75, 8, 2);
        dueBest("man 0 0 0 42 3;lump 0 86 1;pull 38;bound 97", 3, 2056, 17, 9);
        dueBest("man 0 0 1 23 0;lump 0 21 1;pull 28;bound 31", 2, 2000, 20, 0);
        dueBest("man 0 0 1 47 0;lump 0 93 1;pull 54;bound 18;wind 1", 3, 825, 0, 20);
    }

    private void bestGoesByTheRest() {
        checks.sentence("BEST: by LATE, REACH, DEAD, FLOOR, PULL, BOUND, WIND, SHAKE as told");
        String[] texts = {"lump 0 60 1;man 0 0 1 30 0", "lump 0 60 1;man 0 0 0 30 0", "lump 0 60 1;man 0 0 0 9 0",
            "lump 0 60 1;man 0 0 0 30 6", "lump 0 60 1;man 0 0 0 30 0;floor 5",
            "lump 0 60 1;man 0 0 0 30 0;pull 40", "lump 0 60 1;man 0 0 0 30 0;bound 30",
            "lump 0 60 1;man 0 0 0 30 0;wind 1", "lump 0 60 1;man 0 0 0 30 0;shake 20",
            "lump 0 60 1;man 0 0 0 30 0;thing 0 jointed 2"};
        for (String text : texts) {
            Oracle o = new Oracle();
            o.text = text;
            o.chin();
            dueBest(text, 3, o.best(0, 3, 0), o.best(0, 3, 1), o.best(0, 3, 2));
        }
    }

    private void dueOdds(String text, int x, int n, int w, int p, int above, int below) {
        OnChin c = Checks.told(text);
        String call = "odds " + x + " " + n + " " + w + " " + p + " of " + text;
        due(call + ", above", c.odds(0, x, n, w, p, 0), above);
        due(call + ", below", c.odds(0, x, n, w, p, 1), below);
    }

    private void oddsOfNoTicks() {
        checks.sentence("n TICKS (0 .. 6): behind none it is as it begins");
        for (int p : new int[] {0, 5}) {
            dueOdds(STILL, 100, 0, 99, p, 1, 1);
            dueOdds(STILL, -100, 0, 99, p, 1, 1);
            dueOdds(STILL, 101, 0, 99, p, 0, 1);
            dueOdds(STILL, -101, 0, 99, p, 0, 1);
            dueOdds(STILL, 999, 0, 0, p, 0, 1);
        }
        // one TICK more each time: 1, 2, 5, 13, 34, 89, 233
        for (int n = 0; n <= 6; n++) {
            dueOdds(STILL, 1, n, 0, 0, n < 6 ? 1 : 0, 1);
        }
    }

    private void oddsInLowestTerms() {
        checks.sentence("Parts are told in lowest terms: above (part 0), below (1)");
        // WIND 20, BOUND 1: it stays by 20 less in each TICK alone
        String text = FREE + ";bound 1;wind 20";
        int[][] parts = {{0, 1}, {1, 1000000}, {1, 15625}, {729, 1000000}, {64, 15625}, {1, 64}};
        for (int p = 0; p <= 5; p++) {
            dueOdds(text, 0, 6, 20, p, parts[p][0], parts[p][1]);
        }
        int below = 1;
        for (int n = 0; n <= 6; n++) {
            dueOdds(text, 0, n, 20, 1, 1, below);
            below *= 10;
        }
        dueOdds(text, 0, 6, 19, 5, 0, 1);
        // all or nothing
        dueOdds(FREE, 0, 6, 1, 5, 1, 1);
        dueOdds(FREE, 0, 6, 99, 0, 1, 1);
        dueOdds(FREE, 300, 6, 99, 3, 0, 1);
    }

    private void oddsOfTenths() {
        checks.sentence("of w more, of w less, by p tenths each (0 .. 5), else none");
        // BOUND 1 and w 2: none alone leaves it up; w 1 does once to either side
        int[][] none = {{1, 1}, {4, 5}, {3, 5}, {2, 5}, {1, 5}, {0, 1}};
        for (int p = 0; p <= 5; p++) {
            dueOdds(FREE + ";bound 1", 0, 1, 2, p, none[p][0], none[p][1]);
            dueOdds(FREE + ";bound 1", 0, 1, 1, p, 1, 1);
            dueOdds(FREE + ";bound 1", 0, 1, 0, p, 1, 1);
        }
        // to one side alone
        int[][] one = {{1, 1}, {9, 10}, {4, 5}, {7, 10}, {3, 5}, {1, 2}};
        for (int p = 0; p <= 5; p++) {
            dueOdds(FREE + ";bound 1", 1, 1, 1, p, one[p][0], one[p][1]);
            dueOdds(FREE + ";bound 1", -1, 1, 1, p, one[p][0], one[p][1]);
        }
        dueOdds(FREE + ";bound 99", 0, 1, 99, 5, 1, 1);
        dueOdds(FREE + ";bound 98", 0, 1, 99, 5, 0, 1);
        dueOdds(FREE + ";bound 98", 0, 1, 98, 5, 1, 1);
        // each by itself: 9 tenths of 9 tenths and 1 tenth of all are 91
        dueOdds(FREE + ";bound 1", 1, 2, 1, 1, 81, 100);
    }

    private void oddsOfFallen() {
        checks.sentence("that it has not FALLEN behind them");
        // X 0 by 5 is above BOUND 4; then less 5 twice would bring it back
        dueOdds(FREE + ";bound 4", 0, 1, 5, 5, 0, 1);
        dueOdds(FREE + ";bound 4", 0, 3, 5, 5, 0, 1);
        dueOdds(FREE + ";bound 4", 0, 3, 5, 3, 8, 125);
        // 5 more, 10 less: at 5, then at 0; then at -5 or, by 5 more, at 0
        dueOdds(FREE + ";bound 5", 0, 2, 5, 5, 1, 2);
    }

    private void oddsByWindToo() {
        checks.sentence("each by itself (WIND too)");
        dueOdds(FREE + ";wind 3;bound 3", 0, 1, 0, 5, 1, 1);
        dueOdds(FREE + ";wind 3;bound 2", 0, 1, 0, 5, 0, 1);
        dueOdds(FREE + ";wind 3;bound 2", 0, 1, 3, 5, 1, 2);
        dueOdds(FREE + ";wind 3;bound 2", 0, 1, 3, 2, 1, 5);
        dueOdds(FREE + ";wind 20;bound 2", 0, 1, 22, 1, 1, 10);
        dueOdds(FREE + ";wind 20;bound 2", 0, 1, 23, 1, 0, 1);
        checks.sentence("ODDS: he minds it, SHAKE and all");
        // LATE 0: M 7 of X 7; PULL 20 and SHAKE 10 by LONG 300 nothing
        dueOdds("lump 0 300 1;man 10 0 0 99 0;shake 10;bound 7", 7, 6, 0, 0, 1, 1);
        dueOdds("lump 0 300 1;man 10 0 0 6 0;wind 7;bound 7", 7, 1, 0, 0, 0, 1);
        dueOdds("lump 0 300 1;man 10 0 0 7 0;wind 7;bound 7", 7, 1, 0, 0, 1, 1);
    }

    private void dueStands(String text, int x, int shake) {
        due("stands " + x + " of " + text, Checks.told(text).stands(0, x), shake);
    }

    private void standsEnds() {
        checks.sentence("STANDS: the least SHAKE (0 .. 99) by which it is KEPT by 400; none");
        dueStands(STILL, 0, 0);
        dueStands(FREE, 299, 0);
        dueStands(FREE, -299, 0);
        dueStands(FREE, 300, NONE);
        dueStands("lump 0 72 1;pull 30;bound 283", -22, 99);
        dueStands("lump 0 72 1;pull 30;bound 283", 22, 99);
        dueStands("lump 0 57 1;pull 36;bound 166", -18, 99);
        checks.sentence("STANDS: none, though SHAKE 100 would do");
        dueStands("lump 0 132 1;pull 43;bound 120;thing 0 turning 2", -13, NONE);
        dueStands("lump 0 47 1;pull 42;bound 197;wind 1", 4, NONE);
        checks.sentence("STANDS: KEPT by 400: one that falls in TICK 400 is");
        dueStands("lump 0 291 1;pull 11;bound 100;thing 0 turning 1", -100, 4);
        dueStands("lump 0 270 1;pull 40;bound 105;thing 0 turning 8;wind 10", 97, 5);
    }

    private void standsWithNobody() {
        checks.sentence("STANDS: with nobody minding (M 0); from an X, V 0");
        for (String man : new String[] {"man 0 0 0 1 0", "man 40 40 0 99 0", "man 10 0 6 99 99"}) {
            dueStands("lump 0 100 1;" + man, 4, 0);
            dueStands("lump 0 100 1;" + man, 5, 93);
            dueStands("lump 0 100 1;" + man + ";shake 50;floor 0", 5, 93);
        }
        OnChin c = Checks.told("lump 0 100 1;shake 50");
        c.begin(0, 5, 9);
        c.ticks(1);
        due("whatever is kept up", c.stands(0, 5), 93);
        due("SHAKE stays", c.count(9), 50);
    }

    private void dueTwo(String text, int x, int y, int p, int q, int ticks) {
        String call = "two " + x + " " + y + " " + p + " " + q + " of " + text;
        due(call, Checks.told(text).two(0, x, 1, y, p, q), ticks);
    }

    private void twoAsTheyBegin() {
        checks.sentence("TWO: KEPT till one of them has FALLEN");
        String text = FREE + ";lump 1 300 1;bound 50";
        for (int side = -1; side <= 1; side += 2) {
            dueTwo(text, side * 50, 0, 1, 1, 400);
            dueTwo(text, side * 51, 0, 1, 1, 0);
            dueTwo(text, 0, side * 50, 1, 1, 400);
            dueTwo(text, 0, side * 51, 1, 1, 0);
            dueTwo(text, side * 51, side * 51, 9, 9, 0);
            dueTwo(text, side * 999, -side * 999, 9, 9, 0);
        }
        // THING 0 alone is pulled, from X 1 on: 2, 5, 13, 34, 89
        dueTwo("lump 0 1 1;lump 1 300 1;pull 1;man 0 0 0 1 0;bound 50", 1, 1, 1, 1, 5);
        dueTwo("lump 1 1 1;lump 0 300 1;pull 1;man 0 0 0 1 0;bound 50", 1, 1, 1, 1, 5);
        dueTwo("lump 1 1 1;lump 0 1 1;pull 1;man 0 0 0 1 0;bound 50", 1, 13, 1, 1, 2);
        dueTwo("lump 1 1 1;lump 0 1 1;pull 1;man 0 0 0 1 0;bound 50", 34, 1, 1, 1, 1);
    }

    private void twoAtMost() {
        checks.sentence("TWO: 400 at most");
        dueTwo(FREE + ";lump 1 300 1", 299, -299, 1, 1, 400);
        dueTwo("lump 0 1 1;lump 1 1 1", 0, 0, 9, 9, 400);
        // either falls in TICK 399, 400
        String slow = "man 0 0 0 1 0;thing 0 turning 8;thing 1 turning 8;lump 0 90 1;lump 1 90 1;pull 66;shake 3;bound 142";
        dueTwo(slow, -137, 0, 1, 1, 399);
        dueTwo(slow, 0, -137, 1, 1, 399);
        slow = "man 0 0 0 1 0;thing 0 turning 8;thing 1 turning 8;lump 0 40 1;lump 1 40 1;pull 26;shake 3;bound 162";
        dueTwo(slow, 151, 0, 1, 1, 400);
        dueTwo(slow, 0, 151, 1, 1, 400);
        OnChin c = Checks.told("lump 0 300 1;lump 1 300 1;pull 1;man 10 0 0 99 0");
        due("two, minded", c.two(0, 100, 1, 100, 1, 1), 400);
        due("two of one THING", c.two(0, 100, 0, -100, 9, 9), 400);
    }

    /** In which TICKS he minds: the first in p, the second in q of them, from the first on. */
    private void twoInTurns() {
        checks.sentence("he minds the first in TICKS t with t % (p + q) below p, else the second");
        // WIND 1, REACH 99: who is not minded for long enough goes above BOUND
        String[] texts = {"lump 0 300 1;lump 1 300 1;pull 1;man 10 10 0 99 0;wind 1;bound 20",
            "lump 0 1 1;lump 1 1 1;pull 1;man 10 0 0 99 0;bound 999",
            "lump 0 50 1;lump 1 40 2;thing 1 jointed 1;man 12 9 1 60 0;shake 9;bound 200"};
        for (String text : texts) {
            Oracle o = new Oracle();
            o.text = text;
            o.chin();
            for (int p = 1; p <= 9; p++) {
                for (int q = 1; q <= 9; q++) {
                    dueTwo(text, 2, 1, p, q, o.two(0, 2, 1, 1, p, q));
                }
            }
        }
        // by hand: M is X for who is minded; 1 1 3 5 15 25 75 125 and 1 2 3 9 15 45 75 225
        String hand = "man 10 0 0 99 0;pull 1;lump 0 1 1;lump 1 1 1";
        dueTwo(hand, 1, 1, 1, 1, 7);
        // never minded in the first 9 TICKS: 2 5 13 34 89 233
        dueTwo(hand, 1, 1, 9, 1, 6);
        dueTwo(hand, 0, 1, 5, 9, 6);
        // minded in TICKS 0 .. 8: 1 2 4 8 16 32 64 128
        dueTwo(hand, 1, 0, 9, 1, 8);
        dueTwo(hand, 1, 0, 8, 1, 8);
        // X 32, V 32 behind 6 TICKS, then not minded: V 64, X 96; V 160
        dueTwo(hand, 1, 0, 6, 9, 8);
        dueTwo(hand, 1, 0, 5, 9, 7);
        dueTwo(hand, 1, 0, 4, 9, 7);
    }

    private void nothingIsToldByAsking() {
        checks.sentence("how long: asking changes nothing");
        OnChin c = Checks.told("lump 0 60 1;lump 1 90 2;man 11 12 2 33 1;floor 77;pull 9;bound 88;wind 1;shake 5");
        c.begin(0, 9, 1);
        c.ticks(2);
        int[] before = new int[7];
        for (int what = 0; what < 7; what++) {
            before[what] = c.now(what);
        }
        c.kept(1, 5, 5);
        c.steady(0, 5);
        c.line(3);
        c.best(1, 2, 1);
        c.odds(0, 5, 6, 9, 3, 0);
        c.stands(1, 3);
        c.two(0, 1, 1, 2, 3, 4);
        c.plan(3, 1);
        c.fits(0);
        c.next(4, 1);
        int[] told = {11, 12, 2, 33, 1, 77, 9, 88, 1, 5, 0, 0};
        for (int what = 0; what < told.length; what++) {
            due("count " + what, c.count(what), told[what]);
        }
        for (int what = 0; what < 7; what++) {
            due("now " + what, c.now(what), before[what]);
        }
        OnChin twin = Checks.told("lump 0 60 1;lump 1 90 2;man 11 12 2 33 1;floor 77;pull 9;bound 88;wind 1;shake 5");
        twin.begin(0, 9, 1);
        twin.ticks(2);
        due("ticks", c.ticks(9), twin.ticks(9));
        for (int what = 0; what < 7; what++) {
            due("now " + what + ", later", c.now(what), twin.now(what));
        }
    }
}
