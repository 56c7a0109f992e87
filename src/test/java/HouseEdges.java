/** EVENINGS and THE HOUSE: each sentence of the document that names a bound there. */
public final class HouseEdges {
    private static final int NONE = OnChin.NONE;
    /** Nobody moves, and X 10 is not pulled by LONG 11 or more. */
    private static final String STILL = "man 0 0 %d 1 0;pull 1;";

    private final Checks checks = new Checks();

    public static void main(String[] args) {
        HouseEdges tests = new HouseEdges();
        tests.evenings();
        tests.planOfNothing();
        tests.planByLong();
        tests.planToNothing();
        tests.planKeptByForty();
        tests.planByTenths();
        tests.planTheFirst();
        tests.cells();
        tests.hadBefore();
        tests.beside();
        tests.draughtAtMost();
        tests.lampNotAbove();
        tests.fewestSteps();
        tests.noWayOut();
        tests.bothEnds();
        tests.wayToItself();
        tests.counts();
        tests.checks.end();
    }

    private void due(String call, int got, int want) {
        checks.due(call, got, want);
    }

    private static String still(int late) {
        return String.format(STILL, late);
    }

    private void duePlan(OnChin c, int tenths, int... things) {
        due("plan of " + things.length, c.plan(things.length, NONE), tenths);
        for (int i = 0; i < things.length; i++) {
            due("plan of " + things.length + ", " + i, c.plan(things.length, i), things[i]);
        }
    }

    private void evenings() {
        checks.sentence("PLAN for n EVENINGS (1 .. 5); LATE in tenths is 10 times LATE at first");
        for (int late = 0; late <= 6; late++) {
            // LONG 180 is 1 tenth
            OnChin c = Checks.told(still(late) + "lump 3 180 1");
            int tenths = 10 * late;
            duePlan(c, Math.max(0, tenths - 1), 3);
            duePlan(c, Math.max(0, tenths - 2), 3, 3);
            duePlan(c, Math.max(0, tenths - 3), 3, 3, 3);
            duePlan(c, Math.max(0, tenths - 4), 3, 3, 3, 3);
            duePlan(c, Math.max(0, tenths - 5), 3, 3, 3, 3, 3);
            due("LATE stays", c.count(2), late);
        }
    }

    private void planOfNothing() {
        checks.sentence("PLAN: none, if no THING has LUMPS");
        OnChin c = new OnChin();
        for (int n = 1; n <= 5; n++) {
            for (int i = NONE; i < n; i++) {
                due("plan " + n + " " + i, c.plan(n, i), NONE);
            }
            due("OUTSIDE first", c.plan(n, n), OnChin.OUTSIDE);
        }
        for (int thing = 0; thing < 4; thing++) {
            Checks.tell(c, "lump " + thing + " 300 1;bound 9");
            // LUMPS, but not kept: LATE stays 1
            duePlan(c, 10, thing);
            duePlan(c, 10, thing, thing, thing, thing, thing);
            Checks.tell(c, "bare " + thing);
            due("plan", c.plan(1, NONE), NONE);
        }
    }

    private void planByLong() {
        checks.sentence("tenths are 200 by (LONG and 20) less, 1 less at least");
        int[][] less = {{11, 6}, {13, 6}, {14, 5}, {20, 5}, {21, 4}, {30, 4}, {31, 3}, {46, 3}, {47, 2},
            {80, 2}, {81, 1}, {180, 1}, {181, 1}, {300, 1}};
        for (int[] of : less) {
            duePlan(Checks.told(still(3) + "lump 1 " + of[0] + " 1"), 30 - of[1], 1);
        }
        // LONG, not HEIGHT: 81 and 1 are LONG 80
        duePlan(Checks.told(still(3) + "lump 1 81 1;lump 1 1 1"), 28, 1);
    }

    private void planToNothing() {
        checks.sentence("PLAN: 0 at least");
        OnChin c = Checks.told(still(0) + "lump 2 11 1");
        duePlan(c, 0, 2);
        duePlan(c, 0, 2, 2, 2, 2, 2);
        Checks.tell(c, "man 0 0 1 1 0");
        // 6 each: 4, then nothing
        duePlan(c, 4, 2);
        duePlan(c, 0, 2, 2);
        duePlan(c, 0, 2, 2, 2);
        // 5 each: nothing behind two
        Checks.tell(c, "bare 2;lump 2 20 1");
        duePlan(c, 5, 2);
        duePlan(c, 0, 2, 2);
        duePlan(c, 0, 2, 2, 2);
    }

    private void planKeptByForty() {
        checks.sentence("if it is KEPT by 40 TICKS at least from X 10, V 0");
        // REACH 3: it is lost soon behind FLOOR's end
        for (int floor = 28; floor <= 36; floor++) {
            OnChin c = Checks.told("man 17 4 1 3 0;pull 32;bound 62;lump 0 300 1;floor " + floor);
            due("kept by FLOOR " + floor, c.kept(0, 10, 0), floor + 8);
            duePlan(c, floor + 8 < 40 ? 10 : 9, 0);
        }
        // BOUND 9 is no chance, BOUND 10 one
        duePlan(Checks.told(still(1) + "lump 0 300 1;bound 9"), 10, 0);
        duePlan(Checks.told(still(1) + "lump 0 300 1;bound 10"), 9, 0);
        // V 0: LONG 11 is not pulled by X 10, LONG 10 is
        duePlan(Checks.told(still(1) + "lump 0 10 1"), 10, 0);
        duePlan(Checks.told(still(1) + "lump 0 11 1"), 4, 0);
    }

    private void planByTenths() {
        checks.sentence("tried with LATE tenths by 10 (cut)");
        // THING 1 is 3 tenths, but kept from LATE 1 on alone: behind THING 0's one tenth
        OnChin c = Checks.told("man 11 14 2 9 0;lump 0 124 1;lump 1 38 1;pull 4;bound 166");
        due("not by LATE 2", Math.min(c.kept(1, 10, 0), 39), c.kept(1, 10, 0));
        duePlan(c, 19, 0);
        duePlan(c, 16, 0, 1);
        duePlan(c, 13, 0, 1, 1);
        duePlan(c, 10, 0, 1, 1, 1);
        duePlan(c, 7, 0, 1, 1, 1, 1);
        Checks.tell(c, "man 11 14 1 9 0");
        due("by LATE 1", Math.max(c.kept(1, 10, 0), 40), c.kept(1, 10, 0));
        duePlan(c, 7, 1);
        // LATE 6 is the most: one that is kept by LATE 5, not by LATE 6, and one the other way round
        c = Checks.told("man 19 22 6 24 0;lump 0 210 1;pull 4;bound 171");
        due("by LATE 6", c.kept(0, 10, 0), 28);
        duePlan(c, 60, 0, 0);
        Checks.tell(c, "man 19 22 5 24 0");
        due("by LATE 5", c.kept(0, 10, 0), 47);
        duePlan(c, 49, 0);
        c = Checks.told("man 10 27 6 16 3;lump 0 223 1;pull 5;bound 100");
        due("by LATE 6", c.kept(0, 10, 0), 42);
        duePlan(c, 59, 0);
        // 59 tenths are LATE 5
        duePlan(c, 59, 0, 0);
    }

    private void planTheFirst() {
        checks.sentence("PLAN: THINGS by which tenths behind are least; of several the first (by THINGS)");
        OnChin c = Checks.told(still(6) + "lump 0 300 1;lump 1 20 1;lump 2 300 1;lump 3 15 1");
        // 1, 5, 1, 5: the first of 5
        duePlan(c, 55, 1);
        duePlan(c, 50, 1, 1);
        duePlan(c, 35, 1, 1, 1, 1, 1);
        // all alike
        c = Checks.told(still(6) + "lump 0 300 1;lump 1 200 1;lump 2 190 1;lump 3 181 1");
        duePlan(c, 55, 0, 0, 0, 0, 0);
        // the last is best
        c = Checks.told(still(6) + "lump 0 300 1;lump 1 200 1;lump 2 190 1;lump 3 80 1");
        duePlan(c, 50, 3, 3, 3, 3, 3);
        // down to nothing: what is not needed is given to the first
        c = Checks.told(still(1) + "lump 1 180 1;lump 2 20 1");
        duePlan(c, 5, 2);
        duePlan(c, 0, 2, 2);
        duePlan(c, 0, 1, 2, 2);
        duePlan(c, 0, 1, 1, 2, 2);
        duePlan(c, 0, 1, 1, 1, 2, 2);
        c = Checks.told(still(0) + "lump 1 180 1;lump 2 20 1");
        duePlan(c, 0, 1, 1, 1, 1, 1);
        // one that is not kept is tried too, where it is the first
        c = Checks.told(still(0) + "lump 0 1 1;lump 2 20 1");
        duePlan(c, 0, 0, 0);
        c = Checks.told(still(1) + "lump 0 1 1;lump 2 20 1");
        duePlan(c, 0, 0, 2, 2);
    }

    private void cells() {
        checks.sentence("A HOUSE has 36 CELLS, each with a DRAUGHT (0 .. 99; 0 at first) and a LAMP (0: none; else 1 .. 300)");
        OnChin c = Checks.told("lump 0 300 1");
        for (int cell = 0; cell < 36; cell++) {
            due("way " + cell, c.way(0, cell, cell, 0, 1), 0);
            due("room " + cell, c.room(cell, 99 - cell, 0), 0);
        }
        for (int cell = 0; cell < 36; cell++) {
            due("way " + cell, c.way(0, cell, cell, 99, 1), 99 - cell);
            due("room " + cell, c.room(cell, cell, 300), 99 - cell);
            due("way " + cell, c.way(0, cell, cell, 99, 1), NONE);
        }
        for (int cell = 0; cell < 36; cell++) {
            due("room " + cell, c.room(cell, 0, 0), cell);
        }
        due("way", c.way(0, 0, 35, 0, 0), 10);
    }

    private void hadBefore() {
        checks.sentence("room: the DRAUGHT that it had");
        OnChin c = Checks.told("lump 0 300 1");
        int had = 0;
        for (int draught : new int[] {99, 0, 1, 98, 99, 99}) {
            due("room", c.room(35, draught, 300), had);
            had = draught;
        }
        due("room of the last CELL", c.room(35, 0, 0), 99);
        due("room of the first CELL", c.room(0, 0, 0), 0);
    }

    private void beside() {
        checks.sentence("CELLS beside one another (6 by 6: CELL 6 times its row and its column)");
        OnChin c = Checks.told("lump 0 300 1");
        for (int from = 0; from < 36; from += 5) {
            for (int to = 0; to < 36; to++) {
                int steps = Math.abs(from / 6 - to / 6) + Math.abs(from % 6 - to % 6);
                due("way " + from + " " + to, c.way(0, from, to, 0, 0), steps);
            }
        }
        // from the end of a row no step goes to the next row
        for (int row = 0; row < 5; row++) {
            due("way", c.way(0, 6 * row + 5, 6 * row + 6, 0, 0), 6);
            due("way", c.way(0, 6 * row + 6, 6 * row + 5, 0, 0), 6);
        }
    }

    private void draughtAtMost() {
        checks.sentence("DRAUGHTS up to d: all with DRAUGHT d at most");
        OnChin c = Checks.told("lump 0 300 1");
        for (int draught : new int[] {0, 1, 50, 98, 99}) {
            c.room(14, draught, 0);
            for (int d : new int[] {0, draught - 1, draught, draught + 1, 99}) {
                if (d >= 0 && d <= 99) {
                    due("from, " + d, c.way(0, 14, 15, d, 0), draught <= d ? 1 : NONE);
                    due("to, " + d, c.way(0, 13, 14, d, 1), draught <= d ? draught : NONE);
                    due("through, " + d, c.way(0, 13, 15, d, 0), draught <= d ? 2 : 4);
                    due("at, " + d, c.way(0, 14, 14, d, 0), draught <= d ? 0 : NONE);
                }
            }
        }
    }

    private void lampNotAbove() {
        checks.sentence("without a LAMP that is not above its greatest HEIGHT");
        OnChin c = Checks.told("lump 0 1 1;lump 1 300 1;lump 2 150 1;lump 2 149 9;lump 2 3 3;lump 3 299 1;bare 3;lump 3 299 1");
        int[] heights = {1, 300, 150, 299};
        for (int lamp : new int[] {0, 1, 2, 149, 150, 151, 298, 299, 300}) {
            c.room(14, 0, lamp);
            for (int thing = 0; thing < 4; thing++) {
                boolean open = lamp == 0 || lamp > heights[thing];
                String call = thing + " below " + lamp;
                due(call + ", from", c.way(thing, 14, 15, 0, 0), open ? 1 : NONE);
                due(call + ", to", c.way(thing, 13, 14, 0, 1), open ? 0 : NONE);
                due(call + ", through", c.way(thing, 13, 15, 0, 0), open ? 2 : 4);
                due(call + ", at", c.way(thing, 14, 14, 0, 0), open ? 0 : NONE);
            }
        }
        checks.sentence("both a DRAUGHT and a LAMP");
        c.room(14, 9, 200);
        due("way", c.way(2, 13, 15, 9, 0), 2);
        due("DRAUGHT", c.way(2, 13, 15, 8, 0), 4);
        due("LAMP", c.way(3, 13, 15, 9, 0), 4);
    }

    private void fewestSteps() {
        checks.sentence("the fewest steps; of these the least DRAUGHT together");
        OnChin c = Checks.told("lump 0 10 1");
        // straight through 99, or 4 steps without any
        c.room(1, 99, 0);
        due("steps", c.way(0, 0, 2, 99, 0), 2);
        due("DRAUGHT", c.way(0, 0, 2, 99, 1), 99);
        due("steps", c.way(0, 0, 2, 98, 0), 4);
        due("DRAUGHT", c.way(0, 0, 2, 98, 1), 0);
        // of many ways of 10 steps the one along two sides
        for (int cell = 0; cell < 36; cell++) {
            boolean side = cell % 6 == 0 || cell >= 30;
            c.room(cell, side ? 1 : 2, 0);
        }
        due("DRAUGHT", c.way(0, 0, 35, 2, 1), 11);
        due("DRAUGHT", c.way(0, 35, 0, 2, 1), 11);
        due("steps", c.way(0, 0, 35, 1, 0), 10);
        c.room(30, 12, 0);
        // the side would be 22 now: round its corner by CELL 25 it is 1 more than before
        due("DRAUGHT", c.way(0, 0, 35, 12, 1), 12);
        // a snake: walls in rows 1, 3 with one door each
        for (int cell = 0; cell < 36; cell++) {
            boolean wall = cell / 6 == 1 && cell != 11 || cell / 6 == 3 && cell != 18 || cell / 6 == 5 && cell != 35;
            c.room(cell, wall ? 99 : 98, 0);
        }
        due("steps", c.way(0, 0, 35, 98, 0), 20);
        due("DRAUGHT", c.way(0, 0, 35, 98, 1), 21 * 98);
        due("no way", c.way(0, 0, 6, 98, 0), NONE);
        due("no way", c.way(0, 0, 6, 98, 1), NONE);
        due("all open", c.way(0, 0, 35, 99, 0), 10);
    }

    private void noWayOut() {
        checks.sentence("WAY: NONE: there is none");
        OnChin c = Checks.told("lump 0 10 1");
        for (int from : new int[] {0, 5, 30, 35, 14, 21}) {
            due("a way to all CELLS", Math.min(c.way(0, 0, 35, 99, 0), c.way(0, 35, 0, 99, 0)), 10);
            due("a way", Math.max(c.way(0, from, 17, 99, 0), 1), c.way(0, from, 17, 99, 0));
            int[] around = {from - 6, from - 1, from + 1, from + 6};
            for (int cell : around) {
                if (cell >= 0 && cell < 36) {
                    c.room(cell, 60, 0);
                }
            }
            for (int to = 0; to < 36; to += 7) {
                due("shut in " + from, c.way(0, from, to, 59, 0), to == from ? 0 : NONE);
                due("shut in " + from, c.way(0, from, to, 59, 1), to == from ? 0 : NONE);
            }
            for (int cell : around) {
                if (cell >= 0 && cell < 36) {
                    c.room(cell, 0, 0);
                }
            }
        }
    }

    private void bothEnds() {
        checks.sentence("all its CELLS, both ends too");
        OnChin c = Checks.told("lump 0 10 1");
        c.room(0, 5, 0);
        c.room(1, 7, 0);
        c.room(2, 11, 0);
        c.room(7, 50, 0);
        due("way", c.way(0, 0, 1, 99, 1), 12);
        due("way", c.way(0, 1, 0, 99, 1), 12);
        due("way", c.way(0, 0, 2, 99, 1), 23);
        due("way", c.way(0, 2, 0, 99, 1), 23);
        for (int cell = 0; cell < 36; cell++) {
            c.room(cell, 99, 0);
        }
        due("all of 99", c.way(0, 0, 35, 99, 1), 11 * 99);
        due("all of 99", c.way(0, 0, 35, 98, 1), NONE);
    }

    private void wayToItself() {
        checks.sentence("WAY from a CELL to itself: no step, its own DRAUGHT");
        OnChin c = Checks.told("lump 0 10 1");
        c.room(20, 8, 0);
        due("steps", c.way(0, 20, 20, 8, 0), 0);
        due("DRAUGHT", c.way(0, 20, 20, 8, 1), 8);
        due("steps", c.way(0, 20, 20, 7, 0), NONE);
        c.room(20, 8, 10);
        due("DRAUGHT", c.way(0, 20, 20, 8, 1), NONE);
    }

    private void counts() {
        checks.sentence("count: 0 A .. 9 SHAKE, 10 rows of THE FILM, 11 bytes of THE TEXT");
        OnChin c = new OnChin();
        int[] atFirst = {10, 20, 1, 20, 0, 200, 20, 100, 0, 0, 0, 0};
        for (int what = 0; what < 12; what++) {
            due("count " + what, c.count(what), atFirst[what]);
        }
        Checks.tell(c, "man 40 39 6 99 98;floor 999;pull 97;bound 998;wind 20;shake 96");
        int[] greatest = {40, 39, 6, 99, 98, 999, 97, 998, 20, 96, 0, 0};
        for (int what = 0; what < 12; what++) {
            due("count " + what, c.count(what), greatest[what]);
        }
        for (int i = 1; i <= 24; i++) {
            c.film(0, 0);
            due("rows", c.count(10), i);
        }
        for (int i = 1; i <= 25; i++) {
            c.write(0, 8);
            due("bytes", c.count(11), 8 * i);
        }
    }
}
