/** THE FILM, FITS and NEXT: each sentence of the document that names a bound there. */
public final class FilmEdges {
    private static final int NONE = OnChin.NONE, OUTSIDE = OnChin.OUTSIDE, FULL = OnChin.FULL;
    private static final int ALL = 7 * 21 * 21;

    private final Checks checks = new Checks();

    public static void main(String[] args) {
        FilmEdges tests = new FilmEdges();
        tests.rows();
        tests.wound();
        tests.emptyFilm();
        tests.late();
        tests.ruleEnds();
        tests.ruleOutside();
        tests.reachAndDead();
        tests.notByFloorOrThing();
        tests.theFirst();
        tests.nextOfEnds();
        tests.nextOfFull();
        tests.nextOfNothing();
        tests.checks.end();
    }

    private void due(String call, int got, int want) {
        checks.due(call, got, want);
    }

    /** A FILM of these rows, X and M in turn, by REACH 99 and DEAD 0. */
    private static OnChin filmed(int... rows) {
        OnChin c = Checks.told("man 0 0 0 99 0");
        for (int i = 0; i < rows.length; i += 2) {
            c.film(rows[i], rows[i + 1]);
        }
        return c;
    }

    private void dueFits(OnChin c, int many, int late, int a, int b) {
        int[] want = {many, late, a, b};
        for (int what = 0; what < 4; what++) {
            due("fits " + what, c.fits(what), want[what]);
        }
    }

    private void rows() {
        checks.sentence("A FILM has rows, 24 at most: what X was, and M (-99 .. 99)");
        OnChin c = new OnChin();
        int[] xs = {-999, 999, 0};
        int[] ms = {-99, 99, 0};
        for (int i = 0; i < 24; i++) {
            due("rows", c.count(10), i);
            due("film", c.film(xs[i % 3], ms[i % 3]), i + 1);
        }
        due("one more", c.film(0, 0), FULL);
        due("rows", c.count(10), 24);
        c.wind();
        for (int x : new int[] {-1000, 1000, Integer.MIN_VALUE, Integer.MAX_VALUE}) {
            due("film " + x, c.film(x, 0), OUTSIDE);
        }
        for (int m : new int[] {-100, 100, Integer.MIN_VALUE, Integer.MAX_VALUE}) {
            due("film 0 " + m, c.film(0, m), OUTSIDE);
        }
        due("rows", c.count(10), 0);
    }

    private void wound() {
        checks.sentence("THE FILM is empty: how many rows it had");
        OnChin c = new OnChin();
        due("wind", c.wind(), 0);
        for (int rows : new int[] {1, 2, 23, 24}) {
            for (int i = 0; i < rows; i++) {
                c.film(100 + i, 7);
            }
            due("wind", c.wind(), rows);
            due("rows", c.count(10), 0);
            due("wind", c.wind(), 0);
        }
        due("no older row", c.fits(0), ALL);
        due("WIND is another", c.count(8), 0);
        due("a row is the first again", c.film(5, 5), 1);
        due("M 5 of X 5: A 10, 11", c.fits(0), 7 * 2 * 21);
    }

    private void emptyFilm() {
        checks.sentence("FITS: of all LATE 0 .. 6, A 0 .. 20, B 0 .. 20: of no rows all");
        dueFits(new OnChin(), ALL, 0, 0, 0);
        OnChin c = new OnChin();
        for (int what : new int[] {-1, 4, Integer.MIN_VALUE, Integer.MAX_VALUE}) {
            due("fits " + what, c.fits(what), OUTSIDE);
        }
        // the least and the greatest by A alone, cut: X 9 by A 20 is 18
        due("next", c.next(9, 0), 1000);
        due("next", c.next(9, 1), 1018);
        due("next", c.next(-9, 0), 982);
        due("next", c.next(-9, 1), 1000);
    }

    private void late() {
        checks.sentence("FITS: LATE 0 .. 6; rows are TICKS 0, 1, ..");
        // X 0, then 10: A 12 and B 5 move 17 in the TICK in which 10 is seen first, then 12
        for (int late = 0; late <= 8; late++) {
            OnChin c = filmed();
            for (int t = 0; t < 12; t++) {
                int seen = t - late;
                c.film(t == 0 ? 0 : 10, seen <= 0 ? 0 : seen == 1 ? 17 : 12);
            }
            dueFits(c, late <= 6 ? 1 : 0, late <= 6 ? late : NONE, late <= 6 ? 12 : NONE, late <= 6 ? 5 : NONE);
        }
    }

    private void ruleEnds() {
        checks.sentence("FITS: A 0 .. 20, B 0 .. 20");
        for (int a : new int[] {0, 1, 19, 20}) {
            for (int b : new int[] {0, 1, 19, 20}) {
                // LATE 0 sees 10 behind 0 in TICK 1, LATE 6 in TICK 7
                dueFits(filmed(0, 0, 10, a + b, 10, a), a + b == 0 ? 1 + 1 + 5 * 441 : 1, 0, a, b);
                dueFits(filmed(0, 0, 10, 0, 10, 0, 10, 0, 10, 0, 10, 0, 10, 0, 10, a + b, 10, a),
                    a + b == 0 ? 7 : 1, a + b == 0 ? 0 : 6, a, b);
            }
        }
    }

    private void ruleOutside() {
        checks.sentence("FITS: none of A 21, B 21, or less than nothing");
        dueFits(filmed(0, 0, 10, 41, 10, 20), 0, NONE, NONE, NONE);
        dueFits(filmed(0, 0, 10, 41, 10, 21), 0, NONE, NONE, NONE);
        dueFits(filmed(10, 21), 0, NONE, NONE, NONE);
        dueFits(filmed(10, 20), 7 * 21, 0, 20, 0);
        dueFits(filmed(10, -1), 0, NONE, NONE, NONE);
        dueFits(filmed(10, 0), 7 * 21, 0, 0, 0);
        dueFits(filmed(-10, -20), 7 * 21, 0, 20, 0);
        dueFits(filmed(0, 1), 0, NONE, NONE, NONE);
        dueFits(filmed(0, 0, 10, 5, 10, 6), 0, NONE, NONE, NONE);
        checks.sentence("FITS: quotients are cut towards 0");
        // A SEEN of 10 .. 19 is M 1: X 1, A 10 .. 19
        dueFits(filmed(1, 1), 7 * 10 * 21, 0, 10, 0);
        dueFits(filmed(-1, -1), 7 * 10 * 21, 0, 10, 0);
        dueFits(filmed(1, 0), 7 * 10 * 21, 0, 0, 0);
        dueFits(filmed(-1, 0), 7 * 10 * 21, 0, 0, 0);
        dueFits(filmed(1, 2), 7 * 21, 0, 20, 0);
    }

    private void reachAndDead() {
        checks.sentence("FITS: by REACH, DEAD as told");
        OnChin c = filmed(10, 15);
        due("fits", c.fits(0), 7 * 21);
        Checks.tell(c, "man 0 0 0 15 0");
        due("REACH 15: A 15 .. 20", c.fits(0), 7 * 6 * 21);
        Checks.tell(c, "man 0 0 0 16 0");
        due("REACH 16", c.fits(0), 7 * 21);
        Checks.tell(c, "man 0 0 0 14 0");
        due("REACH 14", c.fits(0), 0);
        Checks.tell(c, "man 0 0 0 99 10");
        due("DEAD 10", c.fits(0), 7 * 21);
        Checks.tell(c, "man 0 0 0 99 11");
        due("DEAD 11", c.fits(0), 0);
        c = filmed(-10, 0);
        due("fits", c.fits(0), 7 * 21);
        Checks.tell(c, "man 0 0 0 99 11");
        due("DEAD 11", c.fits(0), ALL);
        c = filmed(-999, -99);
        // 99 A of X 999 is above REACH 99 from A 1 on
        due("REACH 99", c.fits(0), 7 * 20 * 21);
        c = filmed(999, 99);
        due("REACH 99", c.fits(0), 7 * 20 * 21);
    }

    private void notByFloorOrThing() {
        checks.sentence("FLOOR does not matter; a PLAIN THING");
        String[] texts = {"floor 0", "floor 999", "thing 0 jointed 9;lump 0 5 5", "man 40 40 6 99 0", "pull 99",
            "bound 1", "wind 20", "shake 99"};
        OnChin c = filmed(0, 0, 10, 17, 10, 12);
        for (String text : texts) {
            Checks.tell(c, text);
            dueFits(c, 1, 0, 12, 5);
            due(text, c.next(20, 0), 1029);
            due(text, c.next(20, 1), 1029);
        }
    }

    private void theFirst() {
        checks.sentence("the first's LATE, A, B, by LATE, then A, then B");
        // M 3 of X 0, then 10, in TICK 1: LATE 0, A + B is 3
        dueFits(filmed(0, 0, 10, 3), 4, 0, 0, 3);
        dueFits(filmed(0, 0, 10, 25), 16, 0, 5, 20);
        // as well by LATE 1 .. 6: those see nothing
        dueFits(filmed(0, 0, 10, 0), 1 + 6 * 441, 0, 0, 0);
        // not by LATE 0, since then M is 20 in TICK 1
        dueFits(filmed(10, 10, 20, 10), 6 * 21, 1, 10, 0);
    }

    private void dueNext(OnChin c, int x, int least, int most) {
        due("next " + x + ", the least", c.next(x, 0), least);
        due("next " + x + ", the greatest", c.next(x, 1), most);
    }

    private void nextOfEnds() {
        checks.sentence("NEXT, and 1000: the least (what 0), the greatest (1)");
        OnChin c = filmed(0, 0, 10, 17, 10, 12);
        // LATE 0, A 12, B 5: (12 X + 5 X - 50) / 10, REACH 99
        dueNext(c, 0, 995, 995);
        dueNext(c, 3, 1000, 1000);
        dueNext(c, 2, 999, 999);
        dueNext(c, 61, 1098, 1098);
        dueNext(c, 62, 1099, 1099);
        dueNext(c, 999, 1099, 1099);
        dueNext(c, -999, 901, 901);
        due("rows stay", c.count(10), 3);
        dueFits(c, 1, 0, 12, 5);
        checks.sentence("NEXT: by those that FIT the least, the greatest");
        // LATE 0: A + B is 3; SEEN X, BEFORE 10
        c = filmed(0, 0, 10, 3);
        dueNext(c, 10, 1000, 1003);
        dueNext(c, 0, 997, 1000);
        dueNext(c, -10, 994, 997);
        dueNext(c, 20, 1003, 1006);
        checks.sentence("NEXT: in a TICK more: LATE sees rows that there were");
        c = filmed(10, 10, 20, 10);
        // LATE 1 sees 20 behind 10: 20 and B; later ones 10 still
        dueNext(c, 999, 1010, 1040);
        dueNext(c, -999, 1010, 1040);
    }

    private void nextOfFull() {
        checks.sentence("NEXT: in a TICK more, behind 24 rows too");
        OnChin c = filmed();
        for (int i = 0; i < 23; i++) {
            c.film(0, 0);
        }
        c.film(10, 17);
        due("rows", c.count(10), 24);
        // LATE 0 and A + B 17: SEEN 20, BEFORE 10: 2 A + B; A 0 .. 17
        dueNext(c, 20, 1017, 1034);
        dueNext(c, 0, 983, 1000);
        due("rows", c.count(10), 24);
        due("one more", c.film(20, 20), FULL);
        dueNext(c, 20, 1017, 1034);
    }

    private void nextOfNothing() {
        checks.sentence("NEXT: NONE: nothing FITS");
        OnChin c = filmed(10, 21);
        dueNext(c, 0, NONE, NONE);
        dueNext(c, 999, NONE, NONE);
        due("OUTSIDE first", c.next(1000, 0), OUTSIDE);
        due("OUTSIDE first", c.next(-1000, 1), OUTSIDE);
        due("OUTSIDE first", c.next(0, 2), OUTSIDE);
        due("OUTSIDE first", c.next(0, -1), OUTSIDE);
        c.wind();
        dueNext(c, 0, 1000, 1000);
        Checks.tell(c, "man 0 0 0 1 0");
        dueNext(c, 999, 1000, 1001);
        Checks.tell(c, "man 0 0 0 99 99");
        dueNext(c, 98, 1000, 1000);
        dueNext(c, 99, 1000, 1099);
        dueNext(c, -99, 901, 1000);
        dueNext(c, -98, 1000, 1000);
    }
}
