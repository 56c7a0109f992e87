import java.util.ArrayList;
import java.util.Arrays;
import java.util.List;
import java.util.function.Supplier;

/**
 * "Refused, and nothing changes: UNKNOWN, OUTSIDE, NOT, FULL: the first of these that fits." For
 * every call and each of its numbers: the last that is allowed and the first that is not, on each
 * side, the least and the greatest int, two wrong ones at once; and that behind a refused call all
 * is as in a twin that was not called.
 */
public final class RefusalTests {
    private static final int NONE = OnChin.NONE, UNKNOWN = OnChin.UNKNOWN, OUTSIDE = OnChin.OUTSIDE;
    private static final int NOT = OnChin.NOT, FULL = OnChin.FULL;
    private static final int LOW = Integer.MIN_VALUE, HIGH = Integer.MAX_VALUE;

    private interface Asked {
        int of(OnChin c, int[] a);
    }

    /** A number that a call takes: its bounds, the refusal outside them, and an ordinary one. */
    private record Taken(int refusal, int least, int most, int plain) { }

    private record Call(String name, Asked asked, Taken... taken) {
        int[] plain() {
            return Arrays.stream(taken).mapToInt(Taken::plain).toArray();
        }

        String with(int[] a) {
            return name + Arrays.toString(a);
        }
    }

    private static final Taken THING = new Taken(UNKNOWN, 0, 2, 1);
    private static final Taken CELL = new Taken(UNKNOWN, 0, 35, 7);
    private static final Taken IMAGE = new Taken(UNKNOWN, 0, 1, 0);
    private static final Taken X = new Taken(OUTSIDE, -999, 999, 5);
    private static final Taken V = new Taken(OUTSIDE, -99, 99, 1);

    private static Taken number(int least, int most, int plain) {
        return new Taken(OUTSIDE, least, most, plain);
    }

    /** Calls that a THING with LUMPS is asked for: NOT, if it has none. */
    private static final List<Call> OF_LUMPS = List.of(
        new Call("begin", (c, a) -> c.begin(a[0], a[1], a[2]), THING, X, V),
        new Call("kept", (c, a) -> c.kept(a[0], a[1], a[2]), THING, X, V),
        new Call("steady", (c, a) -> c.steady(a[0], a[1]), THING, number(0, 20, 3)),
        new Call("best", (c, a) -> c.best(a[0], a[1], a[2]), THING, number(0, 4, 1), number(0, 2, 1)),
        new Call("odds", (c, a) -> c.odds(a[0], a[1], a[2], a[3], a[4], a[5]), THING, X, number(0, 6, 2),
            number(0, 99, 7), number(0, 5, 3), number(0, 1, 0)),
        new Call("stands", (c, a) -> c.stands(a[0], a[1]), THING, X),
        new Call("two", (c, a) -> c.two(a[0], a[1], a[2], a[3], a[4], a[5]), THING, X, THING, X,
            number(1, 9, 2), number(1, 9, 3)),
        new Call("way", (c, a) -> c.way(a[0], a[1], a[2], a[3], a[4]), THING, CELL, CELL, number(0, 99, 50),
            number(0, 1, 0)));

    /** Calls that ask for something that is kept: NOT, if nothing is. */
    private static final List<Call> OF_KEPT = List.of(
        new Call("ticks", (c, a) -> c.ticks(a[0]), number(1, 100, 3)),
        new Call("now", (c, a) -> c.now(a[0]), number(0, 6, 2)),
        new Call("keep", (c, a) -> c.keep(a[0]), IMAGE),
        new Call("back", (c, a) -> c.back(a[0]), IMAGE));

    private static final List<Call> ROWS = List.of(
        new Call("write", (c, a) -> c.write(0x3b3b3b3b3b3b3b3bL, a[0]), number(1, 8, 3)),
        new Call("film", (c, a) -> c.film(a[0], a[1]), X, number(-99, 99, 4)));

    private static final List<Call> OTHERS = List.of(
        new Call("thing", (c, a) -> c.thing(a[0], a[1]), new Taken(UNKNOWN, 0, 3, 1), number(0, 4, 2)),
        new Call("lump of two", (c, a) -> c.lump(a[0], a[1], a[2]), THING, new Taken(UNKNOWN, 0, 1, 0),
            number(0, 1, 1)),
        new Call("line", (c, a) -> c.line(a[0]), number(0, 20, 3)),
        new Call("fits", (c, a) -> c.fits(a[0]), number(0, 3, 0)),
        new Call("next", (c, a) -> c.next(a[0], a[1]), X, number(0, 1, 0)),
        new Call("plan of one", (c, a) -> c.plan(1, a[0]), number(NONE, 0, 0)),
        new Call("plan of two", (c, a) -> c.plan(2, a[0]), number(NONE, 1, 0)),
        new Call("plan of five", (c, a) -> c.plan(5, a[0]), number(NONE, 4, 0)),
        new Call("plan", (c, a) -> c.plan(a[0], a[1]), number(1, 5, 1), number(NONE, 0, 0)),
        new Call("room", (c, a) -> c.room(a[0], a[1], a[2]), CELL, number(0, 99, 3), number(0, 300, 9)),
        new Call("count", (c, a) -> c.count(a[0]), number(0, 11, 6)));

    private final Checks checks = new Checks();

    public static void main(String[] args) {
        RefusalTests tests = new RefusalTests();
        tests.lastAllowed();
        tests.firstNotAllowed();
        tests.twoAtOnce();
        tests.notOfLumps();
        tests.notOfKept();
        tests.notOfTicks();
        tests.notOfText();
        tests.full();
        tests.checks.end();
    }

    private static List<Call> all() {
        List<Call> all = new ArrayList<>(OF_LUMPS);
        all.addAll(OF_KEPT);
        all.addAll(ROWS);
        all.addAll(OTHERS);
        return all;
    }

    /** A bit of everything: THING 3 alone has no LUMPS, others two; THE TEXT has a FAULT. */
    private static OnChin rich() {
        OnChin c = Checks.told("lump 0 40 2;lump 0 90 1;thing 1 jointed 2;lump 1 150 3;lump 1 300 4;"
            + "lump 2 220 5;thing 2 wet 1;bound 300");
        Checks.tell(c, "man 8 14 2 30 1;floor 90;pull 12;wind 1;shake 3;thing 3 turning 4;lump 2 10 1");
        c.begin(2, 11, -1);
        c.ticks(3);
        c.keep(0);
        c.begin(0, -7, 2);
        c.keep(1);
        c.begin(1, 9, 1);
        c.ticks(4);
        c.film(3, 2);
        c.film(5, 2);
        c.room(0, 7, 0);
        c.room(7, 9, 160);
        c.room(35, 1, 50);
        Checks.put(c, "wind 3;pull");
        return c;
    }

    /** All that can be asked: what is seen at once, and what comes to light later. */
    private static int[] probe(OnChin c) {
        List<Integer> answers = new ArrayList<>();
        told(c, answers);
        now(c, answers);
        answers.addAll(List.of(c.fault(), c.fits(0), c.fits(1), c.fits(2), c.fits(3), c.next(7, 0), c.next(7, 1)));
        for (int cell = 0; cell < 36; cell++) {
            for (int thing = 0; thing < 3; thing++) {
                answers.add(c.way(thing, cell, cell, 99, 1));
            }
        }
        answers.add(c.ticks(3));
        now(c, answers);
        for (int k = 0; k < 2; k++) {
            answers.add(c.back(k));
            now(c, answers);
            answers.add(c.ticks(5));
            now(c, answers);
        }
        Checks.put(c, " 9;bare 0");
        answers.add(c.fault());
        answers.add(c.chin());
        told(c, answers);
        answers.add(c.erase());
        answers.add(c.wind());
        return answers.stream().mapToInt(i -> i).toArray();
    }

    private static void told(OnChin c, List<Integer> answers) {
        for (int what = 0; what < 12; what++) {
            answers.add(c.count(what));
        }
        for (int thing = 0; thing < 4; thing++) {
            for (int what = 0; what < 5; what++) {
                answers.add(c.thing(thing, what));
            }
            for (int i = 0; i < 4; i++) {
                answers.add(c.lump(thing, i, 0));
                answers.add(c.lump(thing, i, 1));
            }
        }
    }

    private static void now(OnChin c, List<Integer> answers) {
        for (int what = 0; what < 7; what++) {
            answers.add(c.now(what));
        }
    }

    private void refused(Supplier<OnChin> maker, Call call, int[] a, int refusal) {
        OnChin called = maker.get();
        checks.due(call.with(a), call.asked().of(called, a), refusal);
        checks.due(call.with(a) + " again", call.asked().of(called, a), refusal);
        int[] behind = probe(called);
        int[] twin = probe(maker.get());
        for (int i = 0; i < twin.length; i++) {
            checks.due("behind " + call.with(a) + " answer " + i, behind[i], twin[i]);
        }
    }

    private void allowed(Call call, int[] a) {
        int answer = call.asked().of(rich(), a);
        checks.due(call.with(a) + " is not refused", Math.min(answer, NONE), NONE);
    }

    private void lastAllowed() {
        checks.sentence("the last number that is allowed, on each side");
        for (Call call : all()) {
            allowed(call, call.plain());
            for (int i = 0; i < call.taken().length; i++) {
                for (int last : new int[] {call.taken()[i].least(), call.taken()[i].most()}) {
                    int[] a = call.plain();
                    a[i] = last;
                    allowed(call, a);
                }
            }
        }
    }

    /** THING 3 is there, but has no LUMPS: the first THING that is not is 4. */
    private static int firstAbove(Taken taken) {
        return taken == THING ? 4 : taken.most() + 1;
    }

    private static int[] wrong(Taken taken) {
        return new int[] {taken.least() - 1, firstAbove(taken), LOW, HIGH};
    }

    private void firstNotAllowed() {
        checks.sentence("the first number that is not, on each side: refused, and nothing changes");
        for (Call call : all()) {
            for (int i = 0; i < call.taken().length; i++) {
                for (int wrong : wrong(call.taken()[i])) {
                    int[] a = call.plain();
                    a[i] = wrong;
                    refused(RefusalTests::rich, call, a, call.taken()[i].refusal());
                }
            }
        }
        checks.sentence("no such LUMP: of a THING without LUMPS none");
        for (int i : new int[] {LOW, -1, 0, 1, 3, 4, HIGH}) {
            checks.due("lump 3 " + i, rich().lump(3, i, 0), UNKNOWN);
            checks.due("lump 3 " + i + " 2", rich().lump(3, i, 2), UNKNOWN);
        }
        checks.sentence("EVENING i (0 .. n - 1)");
        for (int n = 1; n <= 5; n++) {
            for (int i : new int[] {LOW, -2, n, n + 1, HIGH}) {
                checks.due("plan " + n + " " + i, rich().plan(n, i), OUTSIDE);
            }
            checks.due("plan 0 " + n, rich().plan(0, n - 2), OUTSIDE);
            checks.due("plan 6 " + n, rich().plan(6, n), OUTSIDE);
        }
    }

    private void twoAtOnce() {
        checks.sentence("the first of these that fits");
        for (Call call : all()) {
            for (int i = 0; i < call.taken().length; i++) {
                for (int j = 0; j < i; j++) {
                    int refusal = Math.max(call.taken()[i].refusal(), call.taken()[j].refusal());
                    for (int at = 0; at < 4; at++) {
                        int[] a = call.plain();
                        a[i] = wrong(call.taken()[i])[at];
                        a[j] = wrong(call.taken()[j])[(at + 1) % 4];
                        checks.due(call.with(a), call.asked().of(rich(), a), refusal);
                    }
                }
            }
            everythingWrong(call, rich());
            everythingWrong(call, new OnChin());
        }
    }

    private void everythingWrong(Call call, OnChin c) {
        for (int extreme : new int[] {LOW, HIGH}) {
            int[] a = new int[call.taken().length];
            Arrays.fill(a, extreme);
            checks.due(call.with(a), call.asked().of(c, a), call.taken()[0].refusal());
        }
    }

    private void notOfLumps() {
        checks.sentence("NOT (not now: a THING without LUMPS): behind UNKNOWN and OUTSIDE");
        for (Call call : OF_LUMPS) {
            for (int i = 0; i < call.taken().length; i++) {
                int[] bare = call.plain();
                if (call.taken()[i] == THING) {
                    bare[i] = 3;
                    refused(RefusalTests::rich, call, bare, NOT);
                    refused(OnChin::new, call, bare, NOT);
                    otherWrong(call, bare, i);
                }
            }
            refused(OnChin::new, call, call.plain(), NOT);
        }
    }

    private void otherWrong(Call call, int[] bare, int thing) {
        for (int i = 0; i < call.taken().length; i++) {
            for (int wrong : wrong(call.taken()[i])) {
                int[] a = bare.clone();
                a[i] = wrong;
                if (i != thing) {
                    checks.due(call.with(a), call.asked().of(rich(), a), call.taken()[i].refusal());
                }
            }
        }
    }

    private void notOfKept() {
        checks.sentence("NOT: nothing is kept up, nothing was kept: behind UNKNOWN and OUTSIDE");
        Supplier<OnChin> idle = () -> Checks.told("lump 0 40 2;lump 1 90 1;wind 2");
        for (Call call : OF_KEPT) {
            refused(OnChin::new, call, call.plain(), NOT);
            refused(idle, call, call.plain(), NOT);
            for (int last : new int[] {call.taken()[0].least(), call.taken()[0].most()}) {
                refused(OnChin::new, call, new int[] {last}, NOT);
            }
            for (int wrong : wrong(call.taken()[0])) {
                refused(OnChin::new, call, new int[] {wrong}, call.taken()[0].refusal());
                refused(idle, call, new int[] {wrong}, call.taken()[0].refusal());
            }
        }
        for (int kept = 0; kept < 2; kept++) {
            int k = kept;
            Supplier<OnChin> oneImage = () -> {
                OnChin c = idle.get();
                c.begin(0, 5, 1);
                c.ticks(2);
                c.keep(k);
                c.ticks(1);
                return c;
            };
            refused(oneImage, OF_KEPT.get(3), new int[] {1 - k}, NOT);
            checks.due("back to the one that was kept", oneImage.get().back(k), 2);
        }
    }

    private void notOfTicks() {
        checks.sentence("ticks NOT: it has FALLEN");
        ticksRefused(() -> {
            OnChin c = rich();
            c.begin(0, 301, 0);
            return c;
        });
        checks.sentence("ticks NOT: it has no LUMPS");
        ticksRefused(() -> {
            OnChin c = rich();
            c.erase();
            Checks.tell(c, "bare 1");
            return c;
        });
        noneGoes();
    }

    private void ticksRefused(Supplier<OnChin> maker) {
        for (int n : new int[] {1, 100}) {
            refused(maker, OF_KEPT.get(0), new int[] {n}, NOT);
        }
        for (int n : new int[] {LOW, 0, 101, HIGH}) {
            refused(maker, OF_KEPT.get(0), new int[] {n}, OUTSIDE);
        }
    }

    private void noneGoes() {
        Call ticks = OF_KEPT.get(0);
        checks.sentence("400 TICKS at most in all: none goes then");
        Supplier<OnChin> last = () -> {
            OnChin c = Checks.told("lump 0 300 1;pull 1;man 0 0 0 1 0");
            c.begin(0, 5, 0);
            for (int i = 0; i < 4; i++) {
                c.ticks(100);
            }
            return c;
        };
        refused(last, ticks, new int[] {1}, 0);
        refused(last, ticks, new int[] {100}, 0);
        refused(last, ticks, new int[] {101}, OUTSIDE);
    }

    private void notOfText() {
        checks.sentence("chin NOT: it has a FAULT");
        Call chin = new Call("chin", (c, a) -> c.chin());
        Call fault = new Call("fault", (c, a) -> c.fault());
        refused(RefusalTests::rich, chin, new int[0], NOT);
        refused(OnChin::new, chin, new int[0], NOT);
        refused(RefusalTests::rich, fault, new int[0], 11);
        refused(OnChin::new, fault, new int[0], 0);
        Supplier<OnChin> lastLine = () -> {
            OnChin c = rich();
            c.erase();
            Checks.put(c, "bare 0;thing 1 plain;lump 2 5 5;man 1 1 1 1 1;floor 1;pull 1;bound 1;wind 21");
            return c;
        };
        refused(lastLine, chin, new int[0], NOT);
    }

    private static OnChin filled(int bytes, int rows) {
        OnChin c = Checks.told("lump 0 40 2;lump 1 90 1;lump 2 7 7;wind 2");
        c.begin(0, 5, 1);
        Checks.put(c, " ".repeat(bytes));
        for (int i = 0; i < rows; i++) {
            c.film(i, 0);
        }
        return c;
    }

    private void full() {
        Call write = ROWS.get(0);
        Call film = ROWS.get(1);
        checks.sentence("THE TEXT is 200 bytes at most: FULL, and none of the n is written");
        for (int n = 1; n <= 8; n++) {
            int left = n - 1;
            refused(() -> filled(200 - left, 0), write, new int[] {n}, FULL);
            checks.due("write the last " + n, filled(200 - n, 0).write(0, n), 200);
        }
        refused(() -> filled(200, 0), write, new int[] {0}, OUTSIDE);
        refused(() -> filled(200, 0), write, new int[] {9}, OUTSIDE);
        refused(() -> filled(199, 0), write, new int[] {HIGH}, OUTSIDE);
        refused(() -> filled(199, 0), write, new int[] {LOW}, OUTSIDE);
        checks.sentence("A FILM has rows, 24 at most: FULL");
        checks.due("row 24", filled(0, 23).film(999, -99), 24);
        refused(() -> filled(0, 24), film, new int[] {0, 0}, FULL);
        refused(() -> filled(0, 24), film, new int[] {999, 99}, FULL);
        refused(() -> filled(0, 24), film, new int[] {1000, 0}, OUTSIDE);
        refused(() -> filled(0, 24), film, new int[] {0, -100}, OUTSIDE);
        refused(() -> filled(200, 24), film, new int[] {0, 0}, FULL);
        refused(() -> filled(190, 24), write, new int[] {9}, OUTSIDE);
    }
}
