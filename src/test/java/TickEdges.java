/** What is kept up, its TICKS and IMAGES: each sentence of the document that names a bound there. */
public final class TickEdges {
    private static final int NONE = OnChin.NONE, NOT = OnChin.NOT;
    /** Not pulled below X 300, so that V stays; who minds it is told behind. */
    private static final String FREE = "lump 0 300 1;pull 1;bound 299;";

    private final Checks checks = new Checks();

    public static void main(String[] args) {
        TickEdges tests = new TickEdges();
        tests.longIsCut();
        tests.beginsAtNothing();
        tests.seenLate();
        tests.beforeLate();
        tests.lateToldAnew();
        tests.moveIsCut();
        tests.dead();
        tests.reach();
        tests.floor();
        tests.floorIsLast();
        tests.shake();
        tests.leanIsCut();
        tests.turningIsCut();
        tests.wetIsCut();
        tests.wind();
        tests.fallen();
        tests.fallenByBoundNow();
        tests.tillFallen();
        tests.hundredTicks();
        tests.fourHundred();
        tests.fallsInTheLast();
        tests.nowOfExtremes();
        tests.imagesAreTwo();
        tests.imageOfAnything();
        tests.imageKeepsWhatWasSeen();
        tests.checks.end();
    }

    private void due(String call, int got, int want) {
        checks.due(call, got, want);
    }

    private static OnChin begun(String text, int x, int v) {
        OnChin c = Checks.told(text);
        c.begin(0, x, v);
        return c;
    }

    private void dueLong(String text, int want, int tallest) {
        due("LONG of " + text, Checks.told(text).thing(0, 3), want);
        due("greatest HEIGHT of " + text, Checks.told(text).thing(0, 4), tallest);
    }

    private void longIsCut() {
        checks.sentence("LONG .. cut; NONE: no LUMPS; the greatest HEIGHT (0)");
        dueLong("wind 0", NONE, 0);
        dueLong("lump 0 1 1", 1, 1);
        dueLong("lump 0 300 99;lump 0 300 99;lump 0 300 99;lump 0 300 99", 300, 300);
        // 5 by 3, 13 by 5, 10 by 4, 8 by 4
        dueLong("lump 0 1 1;lump 0 2 1", 1, 2);
        dueLong("lump 0 2 1;lump 0 3 1", 2, 3);
        dueLong("lump 0 3 1;lump 0 1 1", 2, 3);
        dueLong("lump 0 2 1;lump 0 2 1", 2, 2);
        dueLong("lump 0 300 99;lump 0 299 1", 299, 300);
        // 90099 by 399, 98132 by 1402
        dueLong("lump 0 1 99;lump 0 300 1", 225, 300);
        dueLong("lump 0 7 99;lump 0 9 1;lump 0 300 1;lump 0 8 50", 69, 300);
    }

    private void beginsAtNothing() {
        checks.sentence("F (0 at first); from X, V, F 0, TICK 0");
        OnChin c = begun(FREE + "man 10 0 0 50 0;lump 1 300 1", 30, 5);
        checks.dueNow(c, 30, 5, 0, 0, 0);
        c.ticks(3);
        due("THING", c.now(6), 0);
        due("begin", c.begin(1, -4, -9), 1);
        checks.dueNow(c, -4, -9, 0, 0, 0);
        due("THING", c.now(6), 1);
        for (int x : new int[] {-999, 0, 999}) {
            for (int v : new int[] {-99, 0, 99}) {
                due("begin", c.begin(1, x, v), 1);
                checks.dueNow(c, x, v, 0, 0, 0);
                due("FALLEN", c.now(5), x == 0 ? 0 : 1);
            }
        }
    }

    /** By V 1 X is 0, 1, 2, ..: he moves from the TICK on in which he sees X 1. */
    private void dueFirstMove(String kind, String man, int late) {
        OnChin c = begun(FREE + kind + man, 0, 1);
        due(kind + man + " ticks", c.ticks(late + 1), late + 1);
        checks.dueNow(c, late + 1, 1, 0, late + 1, 0);
        due(kind + man + " ticks", c.ticks(1), 1);
        checks.dueNow(c, late + 1, 1, 1, late + 2, 1);
    }

    private void seenLate() {
        checks.sentence("SEEN is X as it was ahead of TICK t less LATE (.. ahead of TICK 0, if that is below 0)");
        for (int late = 0; late <= 6; late++) {
            dueFirstMove("", "man 10 0 " + late + " 99 0", late);
            checks.sentence("of a JOINTED one S less, too");
            for (int s = 1; s <= 9; s++) {
                dueFirstMove("thing 0 jointed " + s + ";", "man 10 0 " + late + " 99 0", late + s);
            }
        }
        checks.sentence("SEEN is X ahead of TICK 0, if that is below 0");
        OnChin c = begun(FREE + "thing 0 jointed 9;man 10 0 6 99 0", 7, 9);
        c.ticks(16);
        // M 7 in TICKS 0 .. 15
        checks.dueNow(c, 7 + 2 * 16, 9, 7 * 16, 16, 7);
        c.ticks(1);
        // X ahead of TICK 1 was 9
        checks.dueNow(c, 39, 9, 7 * 16 + 9, 17, 9);
    }

    private void beforeLate() {
        checks.sentence("BEFORE that ahead of the TICK before (likewise)");
        for (int late = 0; late <= 6; late++) {
            dueFirstMove("", "man 0 10 " + late + " 99 0", late);
            dueFirstMove("thing 0 jointed 9;", "man 0 10 " + late + " 99 0", late + 9);
        }
        // M is what it went by so long ago: 3, 3, then nothing any more
        OnChin c = begun(FREE + "man 0 10 1 99 0", 50, 3);
        c.ticks(2);
        checks.dueNow(c, 56, 3, 0, 2, 0);
        c.ticks(1);
        checks.dueNow(c, 56, 3, 3, 3, 3);
        c.ticks(1);
        checks.dueNow(c, 56, 3, 6, 4, 3);
        c.ticks(1);
        checks.dueNow(c, 59, 3, 6, 5, 0);
    }

    private void lateToldAnew() {
        checks.sentence("what is kept up goes on by them: LATE 6 and a joint of 9 look back 16 TICKS");
        OnChin c = begun(FREE + "man 0 0 0 99 0", 0, 2);
        c.ticks(100);
        due("X", c.now(0) - 1000000, 200);
        Checks.tell(c, "thing 0 jointed 9;man 1 10 6 99 0");
        c.ticks(1);
        // SEEN 2 * 85, BEFORE 2 * 84: (170 + 20) / 10
        checks.dueNow(c, 202 - 19, 2, 19, 101, 19);
    }

    private void dueMove(String man, int x, int v, int m) {
        OnChin c = begun(FREE + man, x, v);
        c.ticks(1);
        checks.dueNow(c, x + v - m, v, m, 1, m);
        c = begun(FREE + man, -x, -v);
        c.ticks(1);
        checks.dueNow(c, -x - v + m, -v, -m, 1, -m);
    }

    private void moveIsCut() {
        checks.sentence("M: (A SEEN + B (SEEN - BEFORE)) / 10, cut towards 0");
        int[] seen = {0, 1, 9, 10, 11, 19, 20, 99, 100};
        for (int x : seen) {
            dueMove("man 1 0 0 99 0", x, 0, x / 10);
            dueMove("man 1 40 0 99 0", x, 0, x / 10);
        }
        dueMove("man 3 0 0 99 0", 3, 0, 0);
        dueMove("man 3 0 0 99 0", 4, 0, 1);
        dueMove("man 40 0 0 99 0", 1, 0, 4);
        dueMove("man 0 40 0 99 0", 99, 0, 0);
        // one quotient for both: 5 and 5 are 1, 14 less 5 is 0; by each alone they would be 0, and 1
        OnChin c = begun(FREE + "man 0 0 0 99 0", 0, 5);
        c.ticks(1);
        Checks.tell(c, "man 1 1 0 99 0");
        c.ticks(1);
        checks.dueNow(c, 9, 5, 1, 2, 1);
        c = begun(FREE + "man 0 0 0 99 0", 19, -5);
        c.ticks(1);
        Checks.tell(c, "man 1 1 0 99 0");
        c.ticks(1);
        checks.dueNow(c, 9, -5, 0, 2, 0);
    }

    private void dead() {
        checks.sentence("0, if SEEN is less than DEAD, without sign");
        for (int dead : new int[] {1, 2, 50, 98, 99}) {
            dueMove("man 10 0 0 99 " + dead, dead - 1, 0, 0);
            dueMove("man 10 0 0 99 " + dead, dead, 0, dead);
        }
        dueMove("man 10 0 0 99 99", 100, 0, 99);
        dueMove("man 10 0 0 99 0", 1, 0, 1);
        // SEEN 0 is not less than DEAD 0, but than DEAD 1: how it goes counts, or not
        for (int dead = 0; dead < 2; dead++) {
            OnChin c = begun(FREE + "man 10 10 0 99 " + dead, 6, 0);
            c.ticks(1);
            checks.dueNow(c, 0, 0, 6, 1, 6);
            c.ticks(1);
            checks.dueNow(c, dead == 0 ? 6 : 0, 0, dead == 0 ? 0 : 6, 2, dead == 0 ? -6 : 0);
        }
    }

    private void reach() {
        checks.sentence("REACH at most to either side");
        for (int reach : new int[] {1, 2, 20, 98, 99}) {
            String man = "man 10 0 0 " + reach + " 0";
            dueMove(man, reach - 1, 0, reach - 1);
            dueMove(man, reach, 0, reach);
            dueMove(man, reach + 1, 0, reach);
            dueMove(man, 299, 0, reach);
        }
        // A 40 of X 999: 3996 are 99
        OnChin c = begun("lump 0 300 1;pull 1;bound 999;man 40 40 0 99 0", 999, -99);
        c.ticks(1);
        checks.dueNow(c, 999 - 96 - 99, -96, 99, 1, 99);
    }

    private void floor() {
        checks.sentence("so that F stays from FLOOR less than nothing to FLOOR");
        for (int floor : new int[] {0, 1, 9, 10, 11}) {
            dueMove("man 10 0 0 99 0;floor " + floor, 10, 0, Math.min(floor, 10));
        }
        // M 9 in each TICK by X 9, till F is 99, 999
        for (int floor : new int[] {99, 100, 999}) {
            OnChin c = begun(FREE + "man 10 0 0 99 0;floor " + floor, 9, 9);
            for (int i = 0; i < 2; i++) {
                c.ticks(floor / 18);
            }
            int most = floor / 18 * 18;
            checks.dueNow(c, 9, 9, most, most / 9, 9);
            c.ticks(1);
            int left = Math.min(9, floor - most);
            checks.dueNow(c, 18 - left, 9, most + left, most / 9 + 1, left);
        }
        // at FLOOR he can go back
        OnChin c = begun(FREE + "man 10 0 0 99 0;floor 5", 9, -9);
        c.ticks(1);
        checks.dueNow(c, -5, -9, 5, 1, 5);
        c.ticks(1);
        checks.dueNow(c, -9, -9, 0, 2, -5);
        c.ticks(1);
        checks.dueNow(c, -13, -9, -5, 3, -5);
        c.ticks(1);
        checks.dueNow(c, -22, -9, -5, 4, 0);
    }

    private void floorIsLast() {
        checks.sentence("M for FLOOR is looked at last");
        OnChin c = begun(FREE + "man 10 0 0 20 0;floor 25", 60, 0);
        c.ticks(2);
        checks.dueNow(c, 35, 0, 25, 2, 5);
        Checks.tell(c, "floor 0");
        c.ticks(1);
        // above REACH: the foot must be on the FLOOR
        checks.dueNow(c, 60, 0, 0, 3, -25);
        // what DEAD makes nothing, too
        c = begun(FREE + "man 10 0 0 20 0;floor 25", -20, 0);
        c.ticks(1);
        Checks.tell(c, "floor 3;man 10 0 0 1 99");
        c.ticks(1);
        checks.dueNow(c, -17, 0, -3, 2, 17);
    }

    private void shake() {
        checks.sentence("PULL of the TICK: SHAKE more, if t is even, else SHAKE less");
        // LONG 10 and PULL 10: X as it is, and twice by SHAKE 10, or not at all
        OnChin c = begun("man 0 0 0 1 0;lump 0 10 1;pull 10;shake 10;bound 999", 3, 0);
        int[][] goesOn = {{9, 6}, {15, 6}, {51, 36}, {87, 36}, {297, 210}};
        for (int t = 0; t < goesOn.length; t++) {
            c.ticks(1);
            checks.dueNow(c, goesOn[t][0], goesOn[t][1], 0, t + 1, 0);
        }
        // SHAKE 99 of PULL 1 is 100, then 98 the other way
        c = begun("man 0 0 0 1 0;lump 0 100 1;pull 1;shake 99;bound 999", 100, 0);
        c.ticks(1);
        checks.dueNow(c, 200, 100, 0, 1, 0);
        c.ticks(1);
        checks.dueNow(c, 104, -96, 0, 2, 0);
        // behind an IMAGE the TICK is odd still
        c = begun("man 0 0 0 1 0;lump 0 10 1;pull 10;shake 10;bound 999", 3, 0);
        c.ticks(1);
        c.keep(0);
        c.begin(0, 1, 1);
        c.back(0);
        c.ticks(1);
        checks.dueNow(c, 15, 6, 0, 2, 0);
    }

    /** In its first TICK, with nobody moving. */
    private void dueLean(String text, int x, int v, int lean) {
        OnChin c = begun("man 0 0 0 1 0;bound 999;" + text, x, v);
        c.ticks(1);
        checks.dueNow(c, x + v + lean, v + lean, 0, 1, 0);
        c = begun("man 0 0 0 1 0;bound 999;" + text, -x, -v);
        c.ticks(1);
        checks.dueNow(c, -x - v - lean, -v - lean, 0, 1, 0);
    }

    private void leanIsCut() {
        checks.sentence("It LEANS by X times that by LONG; all quotients are cut towards 0");
        int[][] leans = {{0, 0}, {1, 0}, {19, 0}, {20, 1}, {21, 1}, {39, 1}, {40, 2}, {999, 49}};
        for (int[] lean : leans) {
            dueLean("lump 0 20 1;pull 1", lean[0], 0, lean[1]);
        }
        dueLean("lump 0 1 1;pull 99;shake 99", 999, 99, 999 * 198);
        dueLean("lump 0 300 1;pull 99", 3, 0, 0);
        dueLean("lump 0 300 1;pull 99", 4, 0, 1);
        // a JOINTED one is seen late, but LEANS as a PLAIN one
        dueLean("thing 0 jointed 9;lump 0 20 1;pull 1", 40, 0, 2);
    }

    private void turningIsCut() {
        checks.sentence("a TURNING one by X times S by 10 less than that");
        int[][] leans = {{0, 0}, {1, 0}, {2, -1}, {9, -8}, {10, -9}, {11, -9}, {999, -899}};
        for (int[] lean : leans) {
            dueLean("thing 0 turning 9;lump 0 300 1;pull 1", lean[0], 0, lean[1] + lean[0] / 300);
        }
        dueLean("thing 0 turning 1;lump 0 300 1;pull 1", 9, 0, 0);
        dueLean("thing 0 turning 1;lump 0 300 1;pull 1", 10, 0, -1);
        // 19 by 20 and 19 by 10, each cut by itself: 0 less 1
        dueLean("thing 0 turning 1;lump 0 20 1;pull 1", 19, 0, -1);
        // 39 by 20 and 39 by 10: 1 less 3
        dueLean("thing 0 turning 1;lump 0 20 1;pull 1", 39, 7, -2);
    }

    private void wetIsCut() {
        checks.sentence("a WET one by V times S by 20 more");
        int[][] leans = {{0, 0}, {1, 0}, {19, 0}, {20, 1}, {39, 1}, {40, 2}, {99, 4}};
        for (int[] lean : leans) {
            dueLean("thing 0 wet 1;lump 0 300 1;pull 1", 0, lean[0], lean[1]);
        }
        dueLean("thing 0 wet 9;lump 0 300 1;pull 1", 0, 2, 0);
        dueLean("thing 0 wet 9;lump 0 300 1;pull 1", 0, 3, 1);
        dueLean("thing 0 wet 9;lump 0 300 1;pull 1", 0, 99, 44);
        // 19 by 20 and 19 by 20, each cut by itself; V as it is ahead of the TICK
        dueLean("thing 0 wet 1;lump 0 20 1;pull 1", 19, 19, 0);
        dueLean("thing 0 wet 1;lump 0 20 1;pull 1", 20, 19, 1);
        // against one another: 20 by 20 less 40 by 20
        dueLean("thing 0 wet 1;lump 0 20 1;pull 1", -20, 40, 1);
    }

    private void wind() {
        checks.sentence("V is more by what it LEANS by and by WIND");
        for (int wind : new int[] {0, 1, 19, 20}) {
            OnChin c = begun(FREE + "man 0 0 0 1 0;wind " + wind, -10, 0);
            c.ticks(1);
            checks.dueNow(c, wind - 10, wind, 0, 1, 0);
            c.ticks(1);
            checks.dueNow(c, 3 * wind - 10, 2 * wind, 0, 2, 0);
        }
        // X is more by V as it is behind that, so WIND moves X at once; WET asks V ahead of it
        OnChin c = begun("man 0 0 0 1 0;thing 0 wet 1;lump 0 300 1;pull 1;wind 20", 0, 0);
        c.ticks(1);
        checks.dueNow(c, 20, 20, 0, 1, 0);
        c.ticks(1);
        checks.dueNow(c, 61, 41, 0, 2, 0);
    }

    private void fallen() {
        checks.sentence("It has FALLEN, if X is above BOUND, without sign");
        for (int bound : new int[] {1, 2, 100, 998, 999}) {
            OnChin c = Checks.told("lump 0 300 1;man 0 0 0 1 0;pull 1;bound " + bound);
            for (int side = -1; side <= 1; side += 2) {
                c.begin(0, side * bound, 0);
                due("at BOUND " + bound, c.now(5), 0);
                due("ticks", c.ticks(1), 1);
                c.begin(0, side * (bound - 1), 0);
                due("below BOUND " + bound, c.now(5), 0);
                if (bound < 999) {
                    c.begin(0, side * (bound + 1), 0);
                    due("above BOUND " + bound, c.now(5), 1);
                    due("ticks", c.ticks(1), NOT);
                }
                c.begin(0, side * (bound - 1), side);
                c.ticks(1);
                due("to BOUND", c.now(5), bound < 300 ? 0 : 1);
                c.begin(0, side * (bound - 1), 2 * side);
                c.ticks(1);
                due("above BOUND", c.now(5), 1);
            }
        }
    }

    private void fallenByBoundNow() {
        checks.sentence("It has FALLEN, if X is above BOUND: by what is told now");
        OnChin c = begun(FREE + "man 0 0 0 1 0", -40, 1);
        Checks.tell(c, "bound 39");
        due("above BOUND", c.now(5), 1);
        due("ticks", c.ticks(1), NOT);
        Checks.tell(c, "bound 40");
        due("not above", c.now(5), 0);
        due("ticks", c.ticks(1), 1);
        due("X", c.now(0), 999961);
    }

    private void tillFallen() {
        checks.sentence("n TICKS (1 .. 100), till it has FALLEN: how many went");
        // V 1 from X 290 on: 299 is BOUND
        for (int n : new int[] {1, 9, 10, 11, 100}) {
            OnChin c = begun(FREE + "man 0 0 0 1 0", 290, 1);
            due("ticks " + n, c.ticks(n), Math.min(n, 10));
            due("X", c.now(0) - 1000000, 290 + Math.min(n, 10));
            due("FALLEN", c.now(5), n < 10 ? 0 : 1);
            due("ticks", c.ticks(1), n < 10 ? 1 : NOT);
        }
    }

    private void hundredTicks() {
        checks.sentence("n TICKS (1 .. 100)");
        for (int n : new int[] {1, 2, 99, 100}) {
            OnChin c = begun(FREE + "wind 0", 0, 0);
            due("ticks " + n, c.ticks(n), n);
            due("TICKS", c.now(3), n);
        }
        OnChin c = begun(FREE + "wind 0", 0, 0);
        for (int n : new int[] {0, 101}) {
            due("ticks " + n, c.ticks(n), OnChin.OUTSIDE);
            due("TICKS", c.now(3), 0);
        }
    }

    private static OnChin at(int ticks) {
        OnChin c = begun(FREE + "man 0 0 0 1 0", 3, 0);
        for (int left = ticks; left > 0; left -= 100) {
            c.ticks(Math.min(left, 100));
        }
        return c;
    }

    private void fourHundred() {
        checks.sentence("400 TICKS at most in all: none goes then");
        for (int ticks : new int[] {300, 301, 398, 399, 400}) {
            OnChin c = at(ticks);
            due("TICKS", c.now(3), ticks);
            due("ticks behind " + ticks, c.ticks(100), 400 - ticks);
            due("TICKS", c.now(3), 400);
            due("none goes", c.ticks(1), 0);
            due("none goes", c.ticks(100), 0);
            due("TICKS", c.now(3), 400);
            due("X", c.now(0), 1000003);
            due("it has not FALLEN", c.now(5), 0);
        }
        OnChin c = at(399);
        c.keep(1);
        c.ticks(1);
        due("back to 399", c.back(1), 399);
        due("one more goes", c.ticks(2), 1);
        due("begin", c.begin(0, 1, 0), 1);
        due("all 400 again", c.ticks(100), 100);
        c = at(400);
        Checks.tell(c, "bare 0");
        due("no LUMPS, behind 400", c.ticks(1), NOT);
        Checks.tell(c, "lump 0 300 1;bound 2");
        due("FALLEN, behind 400", c.ticks(1), NOT);
        Checks.tell(c, "bound 3");
        due("none goes", c.ticks(1), 0);
    }

    private void fallsInTheLast() {
        checks.sentence("400 TICKS at most in all, till it has FALLEN");
        for (int x : new int[] {-101, -100, -99}) {
            OnChin c = begun(FREE + "man 0 0 0 1 0", x, 1);
            for (int i = 0; i < 3; i++) {
                c.ticks(100);
            }
            due("the last TICKS", c.ticks(100), x == -99 ? 99 : 100);
            due("FALLEN", c.now(5), x == -101 ? 0 : 1);
            due("then", c.ticks(1), x == -101 ? 0 : NOT);
            due("X", c.now(0) - 1000000, x == -101 ? 299 : 300);
        }
    }

    private void nowOfExtremes() {
        checks.sentence("X and 1000000, V and 1000000, F and 1000, M and 1000");
        OnChin c = begun("lump 0 1 1;pull 99;shake 99;bound 999;man 40 0 0 99 0;wind 20", 999, 99);
        c.ticks(1);
        checks.dueNow(c, 999 + 99 + 197802 + 20 - 99, 197921, 99, 1, 99);
        Checks.tell(c, "wind 0");
        c.begin(0, -999, -99);
        c.ticks(1);
        checks.dueNow(c, -999 - 99 - 197802 + 99, -197901, -99, 1, -99);
        due("FALLEN", c.now(5), 1);
        // from FLOOR 999 back to FLOOR 0 in one TICK
        c = begun("lump 0 300 1;pull 1;bound 999;man 10 0 0 99 0;floor 999", 99, 99);
        c.ticks(11);
        checks.dueNow(c, 189, 99, 999, 11, 9);
        Checks.tell(c, "floor 0");
        c.ticks(1);
        checks.dueNow(c, 1287, 99, 0, 12, -999);
        due("M and 1000", c.now(4), 1);
    }

    private void imagesAreTwo() {
        checks.sentence("IMAGE k (0, 1) keeps what is kept up, as it is: 1");
        OnChin c = begun(FREE + "man 10 0 0 50 0;lump 1 200 1", 8, 1);
        due("keep", c.keep(0), 1);
        c.ticks(2);
        due("keep", c.keep(1), 1);
        for (int i = 0; i < 2; i++) {
            due("back", c.back(0), 0);
            checks.dueNow(c, 8, 1, 0, 0, 0);
            c.ticks(7);
            due("back", c.back(1), 2);
            checks.dueNow(c, 1, 1, 9, 2, 1);
        }
        c.begin(1, 55, 0);
        due("keep over an older one", c.keep(0), 1);
        due("the other stays", c.back(1), 2);
        checks.dueNow(c, 1, 1, 9, 2, 1);
        due("THING", c.now(6), 0);
        due("back", c.back(0), 0);
        checks.dueNow(c, 55, 0, 0, 0, 0);
        due("THING", c.now(6), 1);
    }

    private void imageOfAnything() {
        checks.sentence("keeps what is kept up, as it is: FALLEN, without LUMPS, behind 400 TICKS");
        OnChin c = at(400);
        due("keep", c.keep(0), 1);
        c.begin(0, 300, 4);
        due("keep", c.keep(1), 1);
        Checks.tell(c, "bare 0");
        due("back", c.back(0), 400);
        due("it has no LUMPS", c.ticks(1), NOT);
        due("keep", c.keep(0), 1);
        due("back", c.back(1), 0);
        due("FALLEN", c.now(5), 1);
        due("V", c.now(1), 1000004);
        Checks.tell(c, "lump 0 300 1");
        due("FALLEN still", c.ticks(1), NOT);
        due("back", c.back(0), 400);
        due("none goes", c.ticks(1), 0);
        due("X", c.now(0), 1000003);
    }

    private void imageKeepsWhatWasSeen() {
        checks.sentence("It is kept up as IMAGE k has it: what was seen, too");
        for (int ticks : new int[] {1, 15, 16, 17, 31, 32, 33, 47, 48, 64, 99}) {
            OnChin c = begun(FREE + "man 0 0 0 99 0", 0, 1);
            c.ticks(ticks);
            c.keep(1);
            c.begin(0, 200, 0);
            c.ticks(40);
            c.back(1);
            Checks.tell(c, "thing 0 jointed 9;man 10 0 6 99 0");
            c.ticks(1);
            int seen = Math.max(0, ticks - 15);
            checks.dueNow(c, ticks + 1 - seen, 1, seen, ticks + 1, seen);
        }
    }
}
