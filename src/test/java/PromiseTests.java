/** For each promise: ordinary calls, the edges that the document names, and each refusal. */
public final class PromiseTests {
    private static final int NONE = OnChin.NONE, UNKNOWN = OnChin.UNKNOWN, OUTSIDE = OnChin.OUTSIDE;
    private static final int NOT = OnChin.NOT, FULL = OnChin.FULL;
    private static final int LOW = Integer.MIN_VALUE, HIGH = Integer.MAX_VALUE;
    /** Nobody moves: LONG 1 and PULL 1 then double a lean, more or less, in each TICK. */
    private static final String STILL = "man 0 0 0 1 0;pull 1;lump 0 1 1";

    private final Checks checks = new Checks();
    private String group = "";

    public static void main(String[] args) {
        PromiseTests tests = new PromiseTests();
        tests.newObject();
        tests.writeAndErase();
        tests.faultPlaces();
        tests.faultLumps();
        tests.chin();
        tests.things();
        tests.begin();
        tests.ticksByHand();
        tests.ticksOfKinds();
        tests.ticksByFloorAndDead();
        tests.ticksRefused();
        tests.ticksGoOnByWhatIsTold();
        tests.now();
        tests.images();
        tests.kept();
        tests.keptNearlyRound();
        tests.steady();
        tests.line();
        tests.best();
        tests.odds();
        tests.stands();
        tests.two();
        tests.film();
        tests.fits();
        tests.next();
        tests.plan();
        tests.planByLate();
        tests.house();
        tests.wayEdges();
        tests.count();
        tests.checks.end();
    }

    private void due(String call, int got, int want) {
        checks.due(group + ": " + call, got, want);
    }

    private void dueNow(OnChin c, int x, int v, int f, int ticks, int m) {
        due("now X", c.now(0) - 1000000, x);
        due("now V", c.now(1) - 1000000, v);
        due("now F", c.now(2) - 1000, f);
        due("now TICKS", c.now(3), ticks);
        due("now M", c.now(4) - 1000, m);
    }

    private void newObject() {
        group = "promise 1";
        OnChin c = new OnChin();
        int[] atFirst = {10, 20, 1, 20, 0, 200, 20, 100, 0, 0, 0, 0};
        for (int what = 0; what < atFirst.length; what++) {
            due("count " + what, c.count(what), atFirst[what]);
        }
        int[] bare = {0, 0, 0, NONE, 0};
        for (int thing = 0; thing < 4; thing++) {
            for (int what = 0; what < bare.length; what++) {
                due("thing " + thing + " " + what, c.thing(thing, what), bare[what]);
            }
            due("lump", c.lump(thing, 0, 0), UNKNOWN);
        }
        due("now", c.now(3), NOT);
        due("back", c.back(0), NOT);
        due("back", c.back(1), NOT);
        due("plan", c.plan(1, NONE), NONE);
        for (int cell = 0; cell < 36; cell++) {
            due("room", c.room(cell, 0, 0), 0);
        }
        Checks.tell(c, "wind 5;lump 0 5 5");
        due("another object", new OnChin().count(8), 0);
    }

    private void writeAndErase() {
        group = "promises 2, 3";
        OnChin c = new OnChin();
        for (int n : new int[] {0, 9, -1, LOW, HIGH}) {
            due("write " + n, c.write(97, n), OUTSIDE);
        }
        due("count", c.count(11), 0);
        // 'wind 7' behind two bytes that n cuts off
        long bytes = Checks.packed("wind 7xx", 0, 8);
        due("write", c.write(bytes, 6), 6);
        due("fault", c.fault(), NONE);
        due("erase", c.erase(), 6);
        due("erase", c.erase(), 0);
        due("count", c.count(11), 0);
        due("fault", c.fault(), 0);
        due("write", c.write(Checks.packed("wind", 0, 4), 4), 4);
        due("write", c.write(-1L, 8), 12);
        due("fault", c.fault(), 4);
        c.erase();
        for (int i = 1; i <= 24; i++) {
            due("write", c.write(0x2020202020202020L, 8), 8 * i);
        }
        due("write", c.write(0x2020202020202020L, 7), 199);
        due("write", c.write(0x2020, 2), FULL);
        due("write", c.write(0x2020, 9), OUTSIDE);
        due("count", c.count(11), 199);
        due("write", c.write(0x20, 1), 200);
        due("write", c.write(0x20, 1), FULL);
        due("fault", c.fault(), 200);
        due("erase", c.erase(), 200);
        due("write", c.write(0x20, 1), 1);
    }

    private void dueFault(String text, int place) {
        OnChin c = new OnChin();
        Checks.put(c, text);
        due("fault of '" + text + "'", c.fault(), place);
        due("count", c.count(11), text.length());
        due("chin of '" + text + "'", Math.min(c.chin(), 0), place == NONE ? 0 : NOT);
        due("count", c.count(11), place == NONE ? 0 : text.length());
    }

    private void faultPlaces() {
        group = "promise 4";
        String[] whole = {"thing 0 plain", "thing 3 turning 1", "thing 1 wet 9", "thing 2 jointed 5",
            "lump 3 300 99", "lump 0 1 1", "bare 3", "man 40 40 6 99 99", "man 0 0 0 1 0", "floor 0",
            "floor 999", "pull 1", "pull 99", "bound 1", "bound 999", "wind 0", "wind 20", "shake 0",
            "shake 99", "  pull   5  ", "thing0plain;pull5;thing 1wet2", "man001 02 3 4 5",
            "pull 005 ; pull 6", "pull 1;pull 1;pull 1;pull 1;pull 1;pull 1;pull 1;pull 1  "};
        for (String text : whole) {
            dueFault(text, NONE);
        }
        dueFault("", 0);
        dueFault("   ", 3);
        dueFault(";", 0);
        dueFault(" 5", 1);
        dueFault("thin 0 plain", 0);
        dueFault("thing0plainx", 6);
        dueFault("things 0 plain", 0);
        dueFault("Thing 0 plain", 0);
        dueFault("tHing 0 plain", 0);
        dueFault("thing", 5);
        dueFault("thing  ", 7);
        dueFault("thing plain", 6);
        dueFault("thing 4 plain", 6);
        dueFault("thing 0", 7);
        dueFault("thing 0 lump", 8);
        dueFault("thing 0 turning", 15);
        dueFault("thing 0 turning 0", 16);
        dueFault("thing 0 jointed 10", 16);
        dueFault("thing 0 plain 0", 14);
        dueFault("lump 4 1 1", 5);
        dueFault("lump 0 0 1", 7);
        dueFault("lump 0 301 1", 7);
        dueFault("lump 0 1 0", 9);
        dueFault("lump 0 1 100", 9);
        dueFault("lump 0 1", 8);
        dueFault("lump 0 1 1 1", 11);
        dueFault("bare 4", 5);
        dueFault("bare", 4);
        dueFault("bare 0 0", 7);
        dueFault("man 41 0 0 1 0", 4);
        dueFault("man 0 41 0 1 0", 6);
        dueFault("man 0 0 7 1 0", 8);
        dueFault("man 0 0 0 0 0", 10);
        dueFault("man 0 0 0 100 0", 10);
        dueFault("man 0 0 0 1 100", 12);
        dueFault("man 0 0 0 1", 11);
        dueFault("man 0 0 0 1;", 11);
        dueFault("floor 1000", 6);
        dueFault("floor 0001", 6);
        dueFault("pull 0", 5);
        dueFault("pull 100", 5);
        dueFault("bound 0", 6);
        dueFault("bound 1000", 6);
        dueFault("wind 21", 5);
        dueFault("shake 100", 6);
        dueFault("shake -1", 6);
        dueFault("pull 5.", 6);
        dueFault("pull\t5", 4);
        dueFault("pull 5\n", 6);
        dueFault("pull 5;", 7);
        dueFault("pull 5; ", 8);
        dueFault("pull 5;;pull 5", 7);
        dueFault("pull 5 pull 5", 7);
        dueFault("pull 5 5", 7);
        dueFault("pull 5" + (char) 187, 6);
        dueFault("pull 1;pull 1;pull 1;pull 1;pull 1;pull 1;pull 1;pull 1;", 55);
        dueFault("pull 1;pull 1;pull 1;pull 1;pull 1;pull 1;pull 1;pull 0;", 54);
        dueFault("pull 99999999999999999999", 5);
    }

    private void faultLumps() {
        group = "promise 4, lumps";
        dueFault("lump 0 1 1;lump 0 1 1;lump 0 1 1;lump 0 1 1;lump 0 1 1", 49);
        dueFault("lump 0 1 1;lump 0 1 1;lump 0 1 1;lump 0 1 1;lump 0 0 1", 49);
        dueFault("lump 0 1 1;lump 0 1 1;lump 0 1 1;lump 0 1 1;lump 1 1 1", NONE);
        dueFault("lump 0 1 1;lump 0 1 1;lump 0 1 1;lump 0 1 1;bare 0;lump 0 1 1", NONE);
        dueFault("lump 0 1 1;lump 0 1 1;lump 0 1 1;lump 0 1 1;bare 1;lump 0 1 1", 56);
        OnChin c = Checks.told("lump 2 1 1;lump 2 2 2;lump 2 3 3;lump 2 4 4");
        Checks.put(c, "lump 2 5 5");
        due("fault", c.fault(), 5);
        due("fault again", c.fault(), 5);
        due("chin", c.chin(), NOT);
        c.erase();
        due("chin", Checks.tell(c, "bare 2;lump 2 5 5"), 2);
        due("thing", c.thing(2, 2), 1);
        due("lump", c.lump(2, 0, 0), 5);
    }

    private void chin() {
        group = "promise 5";
        OnChin c = new OnChin();
        due("chin", c.chin(), NOT);
        due("chin", Checks.tell(c, "pull 5;pull 6;floor 7"), 3);
        due("count", c.count(6), 6);
        due("count", c.count(5), 7);
        due("count", c.count(11), 0);
        due("chin", c.chin(), NOT);
        due("chin", Checks.tell(c, "pull 9;pull 0"), NOT);
        due("nothing changes", c.count(6), 6);
        due("nothing changes", c.count(11), 13);
        c.erase();
        due("chin", Checks.tell(c, "thing 1 wet 4;lump 1 10 3;thing 1 plain"), 3);
        due("thing", c.thing(1, 0), 0);
        due("thing", c.thing(1, 1), 0);
        due("thing: its LUMPS stay", c.thing(1, 2), 1);
        due("chin", Checks.tell(c, "thing 1 jointed 7;bare 1"), 2);
        due("bare", c.thing(1, 2), 0);
        due("bare: what it is stays", c.thing(1, 0), 3);
        due("chin", Checks.tell(c, "man 1 2 3 4 5;floor 6;pull 7;bound 8;wind 9;shake 10;lump 0 1 1;bare 0"), 8);
        for (int what = 0; what < 10; what++) {
            due("count " + what, c.count(what), what + 1);
        }
    }

    private void things() {
        group = "promises 6, 7";
        OnChin c = Checks.told("lump 1 100 1;lump 1 200 3;thing 1 turning 2;lump 3 300 99;lump 3 300 99;"
            + "lump 3 300 99;lump 3 299 99");
        int[] second = {1, 2, 2, 185, 200};
        for (int what = 0; what < 5; what++) {
            due("thing 1 " + what, c.thing(1, what), second[what]);
        }
        due("LONG, cut", c.thing(3, 3), 299);
        due("greatest HEIGHT", c.thing(3, 4), 300);
        for (int bad : new int[] {-1, 4, LOW, HIGH}) {
            due("thing", c.thing(bad, 0), UNKNOWN);
            due("thing", c.thing(bad, 9), UNKNOWN);
            due("lump", c.lump(bad, 0, 0), UNKNOWN);
            due("lump", c.lump(1, bad, 0), UNKNOWN);
            due("lump", c.lump(3, bad, 0), UNKNOWN);
        }
        for (int bad : new int[] {-1, 5, LOW, HIGH}) {
            due("thing", c.thing(1, bad), OUTSIDE);
            due("lump", c.lump(1, 0, bad), OUTSIDE);
        }
        due("lump", c.lump(1, 0, 0), 100);
        due("lump", c.lump(1, 0, 1), 1);
        due("lump", c.lump(1, 1, 0), 200);
        due("lump", c.lump(1, 1, 1), 3);
        due("lump", c.lump(1, 1, 2), OUTSIDE);
        due("lump", c.lump(1, 2, 0), UNKNOWN);
        due("lump", c.lump(1, 2, 2), UNKNOWN);
        due("lump", c.lump(3, 3, 0), 299);
        due("lump", c.lump(0, 0, 0), UNKNOWN);
    }

    private void begin() {
        group = "promise 8";
        OnChin c = Checks.told("lump 2 50 1");
        due("begin", c.begin(4, 1000, 0), UNKNOWN);
        due("begin", c.begin(-1, 0, 0), UNKNOWN);
        due("begin", c.begin(0, 1000, 0), OUTSIDE);
        due("begin", c.begin(2, -1000, 0), OUTSIDE);
        due("begin", c.begin(2, 0, 100), OUTSIDE);
        due("begin", c.begin(2, 0, -100), OUTSIDE);
        due("begin", c.begin(2, LOW, HIGH), OUTSIDE);
        due("begin", c.begin(0, 0, 0), NOT);
        due("nothing is kept up", c.now(0), NOT);
        due("begin", c.begin(2, -999, 99), 1);
        dueNow(c, -999, 99, 0, 0, 0);
        due("FALLEN", c.now(5), 1);
        due("begin", c.begin(2, 10, -99), 1);
        dueNow(c, 10, -99, 0, 0, 0);
        due("FALLEN", c.now(5), 0);
        due("THING", c.now(6), 2);
        c.ticks(1);
        due("begin", c.begin(1, 5, 5), NOT);
        due("as it was", c.now(3), 1);
        due("begin", c.begin(2, 7, 0), 1);
        dueNow(c, 7, 0, 0, 0, 0);
    }

    private void ticksByHand() {
        group = "promise 9, by hand";
        // LONG 100: M 30 -> REACH 20; lean 6. Then SEEN is still 30; then 16 behind 30.
        OnChin c = Checks.told("lump 0 100 5");
        c.begin(0, 30, 0);
        due("ticks", c.ticks(1), 1);
        dueNow(c, 16, 6, 20, 1, 20);
        due("ticks", c.ticks(1), 1);
        dueNow(c, 5, 9, 40, 2, 20);
        due("ticks", c.ticks(1), 1);
        dueNow(c, 27, 10, 28, 3, -12);
        // The same to the left: quotients are cut towards 0.
        c.begin(0, -30, 0);
        due("ticks", c.ticks(3), 3);
        dueNow(c, -27, -10, -28, 3, 12);
        c.begin(0, -7, 0);
        c.ticks(1);
        dueNow(c, -1, -1, -7, 1, -7);
        // LATE 0: SEEN is X now, BEFORE the X ahead of the TICK before.
        Checks.tell(c, "man 3 7 0 99 0");
        c.begin(0, 33, 10);
        c.ticks(1);
        dueNow(c, 40, 16, 9, 1, 9);
        c.ticks(1);
        // (3 * 40 + 7 * 7) / 10 = 16; lean 8
        dueNow(c, 48, 24, 25, 2, 16);
        // WIND 3, SHAKE 7: PULL 27 in even TICKS, 13 in odd ones; nobody moves.
        Checks.tell(c, "man 0 0 0 1 0;wind 3;shake 7;bound 999");
        c.begin(0, 100, 0);
        c.ticks(1);
        dueNow(c, 130, 30, 0, 1, 0);
        c.ticks(1);
        dueNow(c, 179, 49, 0, 2, 0);
        c.ticks(1);
        dueNow(c, 279, 100, 0, 3, 0);
        // SHAKE above PULL pulls the other way.
        Checks.tell(c, "wind 0;shake 99");
        c.begin(0, 10, 0);
        c.ticks(2);
        // 10 * 119 / 100 = 11: 21; 21 * -79 / 100 = -16: V -5
        dueNow(c, 16, -5, 0, 2, 0);
    }

    private void ticksOfKinds() {
        group = "promise 9, kinds";
        // WET: V as it was ahead: 30 * 20 / 60 + 40 * 5 / 20.
        OnChin c = Checks.told("lump 2 60 4;thing 2 wet 5");
        c.begin(2, 30, 40);
        c.ticks(1);
        dueNow(c, 70, 60, 20, 1, 20);
        c.begin(2, -30, -39);
        c.ticks(1);
        dueNow(c, -68, -58, -20, 1, -20);
        // TURNING: each quotient cut by itself: 37 * 33 / 100 - 37 * 2 / 10 = 12 - 7.
        c = Checks.told("lump 1 100 1;thing 1 turning 2;pull 33;man 0 0 0 1 0");
        c.begin(1, 37, 0);
        c.ticks(1);
        dueNow(c, 42, 5, 0, 1, 0);
        // JOINTED by 2, LATE 1: X of three TICKS ago, that of TICK 0 till then.
        c = Checks.told("lump 3 300 1;thing 3 jointed 2;pull 1;man 10 20 1 99 0");
        c.begin(3, 20, -3);
        c.ticks(1);
        dueNow(c, -3, -3, 20, 1, 20);
        c.ticks(1);
        dueNow(c, -26, -3, 40, 2, 20);
        c.ticks(1);
        dueNow(c, -49, -3, 60, 3, 20);
        c.ticks(1);
        dueNow(c, -72, -3, 80, 4, 20);
        c.ticks(1);
        // SEEN -3, BEFORE 20: (-30 - 460) / 10
        dueNow(c, -26, -3, 31, 5, -49);
        // LATE 6 and a joint of 9: the greatest look back there is.
        c = Checks.told("lump 3 300 1;thing 3 jointed 9;pull 1;man 10 0 6 99 0;bound 999;floor 999");
        c.begin(3, 1, 1);
        c.ticks(16);
        // X is 1 for 16 TICKS (V 1, M 1): then SEEN is X ahead of TICK 1, still 1
        dueNow(c, 1, 1, 16, 16, 1);
        Checks.tell(c, "thing 3 jointed 9;man 20 0 6 99 0");
        c.ticks(15);
        // M 2 each: X is 0, -1, .. -14; then X of TICK 16 is seen, 1, for the last time
        dueNow(c, -14, 1, 46, 31, 2);
        c.ticks(2);
        // M 2 by X 1 of TICK 16, then M 0 by X 0 of TICK 17
        dueNow(c, -14, 1, 48, 33, 0);
    }

    private void ticksByFloorAndDead() {
        group = "promise 9, FLOOR and DEAD";
        OnChin c = Checks.told("lump 0 100 5;floor 25");
        c.begin(0, 30, 0);
        c.ticks(2);
        dueNow(c, 20, 9, 25, 2, 5);
        c.begin(0, -30, 0);
        c.ticks(2);
        dueNow(c, -20, -9, -25, 2, -5);
        Checks.tell(c, "floor 0");
        c.begin(0, 30, 0);
        c.ticks(1);
        dueNow(c, 36, 6, 0, 1, 0);
        Checks.tell(c, "floor 200;man 10 20 1 20 31");
        c.begin(0, 30, 0);
        c.ticks(1);
        dueNow(c, 36, 6, 0, 1, 0);
        c.begin(0, -30, 0);
        c.ticks(1);
        dueNow(c, -36, -6, 0, 1, 0);
        Checks.tell(c, "man 10 20 1 20 30");
        c.begin(0, 30, 0);
        c.ticks(1);
        dueNow(c, 16, 6, 20, 1, 20);
        // SEEN alone is asked for DEAD, however it goes: 16, 30 before
        c.ticks(2);
        dueNow(c, 15, 10, 40, 3, 0);
    }

    private void ticksRefused() {
        group = "promise 9, refusals";
        OnChin c = Checks.told("lump 0 300 5;pull 1");
        for (int n : new int[] {0, -1, 101, LOW, HIGH}) {
            due("ticks " + n, c.ticks(n), OUTSIDE);
        }
        due("nothing is kept up", c.ticks(1), NOT);
        c.begin(0, 0, 0);
        due("ticks", c.ticks(101), OUTSIDE);
        for (int i = 0; i < 3; i++) {
            due("ticks", c.ticks(100), 100);
        }
        due("ticks", c.ticks(60), 60);
        due("ticks", c.ticks(100), 40);
        due("400 in all", c.now(3), 400);
        due("none goes then", c.ticks(1), 0);
        due("none goes then", c.ticks(100), 0);
        due("ticks", c.ticks(0), OUTSIDE);
        due("begin", c.begin(0, 0, 1), 1);
        due("ticks", c.ticks(1), 1);
        due("begin", c.begin(0, 101, 0), 1);
        due("it has FALLEN", c.ticks(1), NOT);
        due("begin", c.begin(0, 100, 0), 1);
        due("it has not", c.ticks(1), 1);
        c.begin(0, 1, 0);
        Checks.tell(c, "bare 0");
        due("it has no LUMPS", c.ticks(1), NOT);
        due("now", c.now(0), 1000001);
        Checks.tell(c, "lump 0 5 5");
        due("it has again", c.ticks(1), 1);
    }

    private void ticksGoOnByWhatIsTold() {
        group = "promises 5, 9: goes on by them";
        OnChin c = Checks.told("lump 0 100 5");
        c.begin(0, 30, 0);
        c.ticks(2);
        // F is 40: FLOOR is looked at last, above REACH
        Checks.tell(c, "floor 10");
        c.ticks(1);
        dueNow(c, 45, 10, 10, 3, -30);
        c = Checks.told("lump 0 100 5");
        c.begin(0, 30, 0);
        c.ticks(3);
        // X was 30, 16, 5 and is 27: LATE 3 sees 30 now
        Checks.tell(c, "man 10 20 3 99 0");
        c.ticks(1);
        dueNow(c, 12, 15, 58, 4, 30);
        Checks.tell(c, "bound 11");
        due("FALLEN by BOUND", c.now(5), 1);
        due("ticks", c.ticks(1), NOT);
        Checks.tell(c, "bound 12");
        due("not FALLEN", c.now(5), 0);
        due("ticks", c.ticks(1), 1);
    }

    private void now() {
        group = "promise 10";
        OnChin c = Checks.told("lump 3 100 5");
        for (int what : new int[] {-1, 7, LOW, HIGH}) {
            due("now " + what, c.now(what), OUTSIDE);
        }
        for (int what = 0; what < 7; what++) {
            due("now " + what, c.now(what), NOT);
        }
        c.begin(3, 30, 0);
        due("M before one", c.now(4), 1000);
        due("now", c.now(7), OUTSIDE);
        c.ticks(3);
        int[] all = {1000027, 1000010, 1028, 3, 988, 0, 3};
        for (int what = 0; what < 7; what++) {
            due("now " + what, c.now(what), all[what]);
        }
        Checks.tell(c, "bare 3");
        for (int what = 0; what < 7; what++) {
            due("now " + what + " of a bare one", c.now(what), all[what]);
        }
    }

    private void images() {
        group = "promises 11, 12";
        OnChin c = Checks.told("lump 0 100 5;lump 1 300 1");
        for (int k : new int[] {-1, 2, LOW, HIGH}) {
            due("keep " + k, c.keep(k), UNKNOWN);
            due("back " + k, c.back(k), UNKNOWN);
        }
        due("keep", c.keep(0), NOT);
        due("back", c.back(0), NOT);
        c.begin(0, 30, 0);
        c.ticks(2);
        due("keep", c.keep(0), 1);
        due("back", c.back(1), NOT);
        c.ticks(1);
        dueNow(c, 27, 10, 28, 3, -12);
        due("keep", c.keep(1), 1);
        due("back", c.back(0), 2);
        dueNow(c, 5, 9, 40, 2, 20);
        c.begin(1, 1, 1);
        c.ticks(9);
        due("back", c.back(0), 2);
        due("its THING", c.now(6), 0);
        c.ticks(1);
        // what was seen is kept too
        dueNow(c, 27, 10, 28, 3, -12);
        due("back", c.back(1), 3);
        dueNow(c, 27, 10, 28, 3, -12);
        c.begin(1, 101, 0);
        due("keep one that has FALLEN", c.keep(1), 1);
        due("back", c.back(0), 2);
        due("back", c.back(1), 0);
        due("FALLEN", c.now(5), 1);
        due("THING", c.now(6), 1);
        // behind many TICKS, and over an older IMAGE: V 1 and M 1, till he sees twice as much
        Checks.tell(c, "man 10 0 6 99 0;thing 1 jointed 9;pull 1");
        c.begin(1, 1, 1);
        c.ticks(50);
        due("keep", c.keep(0), 1);
        Checks.tell(c, "man 20 0 6 99 0");
        for (int i = 0; i < 3; i++) {
            c.ticks(17);
            // M 2 in 16 TICKS by X 1, then 0 by X 0 of TICK 51
            dueNow(c, -14, 1, 82, 67, 0);
            due("back", c.back(0), 50);
            dueNow(c, 1, 1, 50, 50, 1);
        }
    }

    private void kept() {
        group = "promise 13";
        OnChin c = Checks.told(STILL);
        // 1, 2, 5, 13, 34, 89, 233
        due("kept", c.kept(0, 1, 0), 6);
        due("kept", c.kept(0, -1, 0), 6);
        due("kept", c.kept(0, 0, 0), 400);
        due("kept", c.kept(0, 0, 1), 6);
        due("as it begins", c.kept(0, 101, 0), 0);
        due("as it begins", c.kept(0, -101, 0), 0);
        due("not as it begins", c.kept(0, 100, 0), 1);
        due("kept", c.kept(0, -100, 99), 1);
        due("kept", c.kept(0, -99, 99), 2);
        Checks.tell(c, "bound 89");
        due("not above BOUND", c.kept(0, 1, 0), 6);
        Checks.tell(c, "bound 88");
        due("above BOUND", c.kept(0, 1, 0), 5);
        due("kept", c.kept(4, 1000, 0), UNKNOWN);
        due("kept", c.kept(-1, 0, 0), UNKNOWN);
        due("kept", c.kept(1, 1000, 0), OUTSIDE);
        due("kept", c.kept(0, -1000, 0), OUTSIDE);
        due("kept", c.kept(0, 0, 100), OUTSIDE);
        due("kept", c.kept(0, 0, -100), OUTSIDE);
        due("kept", c.kept(1, 0, 0), NOT);
        due("kept", c.kept(0, 999, -99), 0);
        due("nothing is kept up by it", c.now(0), NOT);
        // V 1 and M 0: BOUND 299 is passed in the TICK that brings X to 300
        Checks.tell(c, "bare 0;lump 0 300 1;lump 0 300 1;wind 0;pull 1;bound 299");
        due("kept", c.kept(0, 0, 1), 300);
        due("kept", c.kept(0, -100, 1), 400);
        due("kept", c.kept(0, -99, 1), 399);
        c.begin(0, 30, 0);
        c.ticks(5);
        int x = c.now(0);
        c.kept(0, 50, 0);
        due("what is kept up stays", c.now(0), x);
    }

    private void dueKept(String text, int x, int v, int ticks) {
        due(text, Checks.told(text).kept(0, x, v), ticks);
    }

    /** What comes back to an X, a V, an F or to what was seen, but not to all of these. */
    private void keptNearlyRound() {
        group = "promise 13, nearly round";
        dueKept("man 0 22 1 2 0;thing 0 wet 6;lump 0 259 1;floor 14;pull 2;bound 219;shake 30", 6, 1, 37);
        dueKept("man 0 10 0 23 0;thing 0 turning 2;lump 0 197 1;floor 400;pull 34;bound 14", -5, 0, 162);
        dueKept("man 1 16 0 6 9;lump 0 173 1;floor 7;pull 3;bound 85;shake 26", -9, 0, 37);
        dueKept("man 20 13 1 30 0;thing 0 turning 1;lump 0 90 1;floor 2;pull 5;bound 84;wind 1;shake 15",
            -1, 1, 233);
        dueKept("man 1 11 1 20 0;thing 0 turning 5;lump 0 67 1;floor 400;pull 39;bound 102;shake 17", -2, 0, 49);
        dueKept("man 16 15 1 22 0;thing 0 wet 5;lump 0 223 1;floor 400;pull 4;bound 21", -3, 0, 19);
        dueKept("man 12 29 1 19 0;thing 0 jointed 7;lump 0 178 1;floor 18;pull 6;bound 186", -14, 0, 31);
        dueKept("man 1 17 3 27 0;thing 0 jointed 3;lump 0 121 1;floor 400;pull 5;bound 192", -14, 0, 97);
        dueKept("man 18 28 0 17 0;thing 0 wet 5;lump 0 218 1;floor 3;pull 22;bound 153;wind 2;shake 23", 0, 0, 8);
    }

    private void steady() {
        group = "promise 14";
        OnChin c = Checks.told(STILL);
        due("steady", c.steady(0, 0), 400);
        due("steady", c.steady(0, 1), 6);
        due("steady", c.steady(0, 2), 5);
        Checks.tell(c, "wind 1");
        // with WIND it is not the same to both sides: 0 is lost by 6, 1 by 5, -1 stands
        due("steady", c.steady(0, 0), 6);
        due("steady", c.steady(0, 1), 5);
        due("kept", c.kept(0, -1, 0), 400);
        Checks.tell(c, "bare 0;lump 0 300 1;bound 10;wind 0");
        due("steady", c.steady(0, 10), 400);
        due("steady", c.steady(0, 11), 0);
        due("steady", c.steady(4, 21), UNKNOWN);
        due("steady", c.steady(-1, 0), UNKNOWN);
        due("steady", c.steady(1, 21), OUTSIDE);
        due("steady", c.steady(0, -1), OUTSIDE);
        due("steady", c.steady(0, HIGH), OUTSIDE);
        due("steady", c.steady(1, 20), NOT);
    }

    private void line() {
        group = "promise 15";
        OnChin c = Checks.told("man 0 0 0 1 0");
        // nobody moves, PULL 20: X k is not pulled by LONG above 20 k, and lost below
        for (int k = 0; k <= 14; k++) {
            due("line " + k, c.line(k), 20 * k + 1);
        }
        due("line 15", c.line(15), NONE);
        due("line 20", c.line(20), NONE);
        due("line", c.line(-1), OUTSIDE);
        due("line", c.line(21), OUTSIDE);
        due("line", c.line(LOW), OUTSIDE);
        due("line", c.line(HIGH), OUTSIDE);
        Checks.tell(c, "thing 0 wet 9;lump 0 3 3;shake 5");
        due("SHAKE matters", c.line(2), 51);
        Checks.tell(c, "shake 0;bound 1");
        due("line", c.line(1), 21);
        due("line", c.line(2), NONE);
        Checks.tell(c, "wind 1");
        due("line", c.line(0), NONE);
    }

    private void dueBest(String text, int k, int together, int a, int b) {
        OnChin c = Checks.told(text);
        due(text, c.best(0, k, 0), together);
        due(text, c.best(0, k, 1), a);
        due(text, c.best(0, k, 2), b);
        Oracle o = new Oracle();
        o.text = text;
        o.chin();
        due(text, together, o.best(0, k, 0));
    }

    private void best() {
        group = "promise 16";
        dueBest("lump 0 300 1;pull 1", 4, 3600, 0, 0);
        dueBest("lump 0 60 5;man 40 40 0 50 0", 4, 2826, 8, 0);
        dueBest("lump 0 150 5;man 0 0 2 50 0;wind 1", 1, 54, 12, 4);
        dueBest("lump 0 40 1;thing 0 wet 3;man 0 0 0 20 0", 4, 2048, 15, 3);
        dueBest("lump 0 35 1;man 0 0 2 9 0;pull 35;thing 0 wet 4", 1, 418, 20, 20);
        dueBest("lump 0 113 1;man 0 0 0 33 0;pull 34", 4, 3214, 5, 0);
        dueBest("lump 0 98 1;man 0 0 1 21 0;pull 40;thing 0 turning 3", 4, 3024, 7, 0);
        // it falls in the first TICK whatever he does: the least A and B
        dueBest("lump 0 1 1;pull 99;bound 1;wind 20;man 9 9 0 1 0", 0, 1, 0, 0);
        OnChin c = Checks.told("lump 0 60 5");
        due("best", c.best(4, 5, 3), UNKNOWN);
        due("best", c.best(-1, 0, 0), UNKNOWN);
        due("best", c.best(1, 5, 0), OUTSIDE);
        due("best", c.best(0, -1, 0), OUTSIDE);
        due("best", c.best(0, 0, 3), OUTSIDE);
        due("best", c.best(0, 0, -1), OUTSIDE);
        due("best", c.best(1, 4, 2), NOT);
        due("A is as told", c.count(0), 10);
        due("B is as told", c.count(1), 20);
    }

    private void dueOdds(OnChin c, int x, int n, int w, int p, int above, int below) {
        String call = "odds " + x + " " + n + " " + w + " " + p;
        due(call, c.odds(0, x, n, w, p, 0), above);
        due(call, c.odds(0, x, n, w, p, 1), below);
    }

    private void odds() {
        group = "promise 17";
        OnChin c = Checks.told("lump 0 300 1;pull 1;man 0 0 0 1 0");
        dueOdds(c, 95, 1, 10, 3, 7, 10);
        // 3 tenths, then all; 4 tenths, then 7 tenths
        dueOdds(c, 95, 2, 10, 3, 29, 50);
        dueOdds(c, 95, 1, 10, 5, 1, 2);
        // what has FALLEN does not stand up again: + - - would bring it back
        dueOdds(c, 95, 3, 10, 5, 1, 2);
        dueOdds(c, -95, 3, 10, 5, 1, 2);
        dueOdds(c, 95, 6, 10, 0, 1, 1);
        dueOdds(c, 95, 6, 0, 5, 1, 1);
        dueOdds(c, 95, 0, 99, 5, 1, 1);
        dueOdds(c, 101, 0, 0, 0, 0, 1);
        dueOdds(c, 101, 6, 10, 3, 0, 1);
        dueOdds(c, 100, 0, 0, 0, 1, 1);
        dueOdds(c, 100, 1, 1, 2, 4, 5);
        // - + + - - + alone
        dueOdds(c, 95, 6, 99, 5, 1, 64);
        Checks.tell(c, "wind 6");
        // WIND too: only w less keeps it
        dueOdds(c, 95, 1, 10, 3, 3, 10);
        due("odds", c.odds(4, 1000, 7, 0, 0, 0), UNKNOWN);
        due("odds", c.odds(-1, 0, 0, 0, 0, 0), UNKNOWN);
        due("odds", c.odds(1, 1000, 0, 0, 0, 0), OUTSIDE);
        due("odds", c.odds(0, -1000, 0, 0, 0, 0), OUTSIDE);
        due("odds", c.odds(0, 0, 7, 0, 0, 0), OUTSIDE);
        due("odds", c.odds(0, 0, -1, 0, 0, 0), OUTSIDE);
        due("odds", c.odds(0, 0, 0, 100, 0, 0), OUTSIDE);
        due("odds", c.odds(0, 0, 0, -1, 0, 0), OUTSIDE);
        due("odds", c.odds(0, 0, 0, 0, 6, 0), OUTSIDE);
        due("odds", c.odds(0, 0, 0, 0, -1, 0), OUTSIDE);
        due("odds", c.odds(0, 0, 0, 0, 0, 2), OUTSIDE);
        due("odds", c.odds(0, 0, 0, 0, 0, -1), OUTSIDE);
        due("odds", c.odds(1, 0, 6, 99, 5, 1), NOT);
    }

    private void stands() {
        group = "promise 18";
        OnChin c = Checks.told("lump 0 100 1;shake 77");
        due("not pulled at all", c.stands(0, 4), 0);
        due("stands", c.stands(0, 5), 93);
        due("stands", c.stands(0, -7), 94);
        due("stands", c.stands(0, 20), 97);
        due("SHAKE is as told", c.count(9), 77);
        due("as it begins", c.stands(0, 101), NONE);
        Checks.tell(c, "man 40 40 6 99 0;floor 0");
        due("nobody minds", c.stands(0, 5), 93);
        Checks.tell(c, "bare 0;lump 0 20 1");
        due("stands", c.stands(0, 0), 0);
        due("stands", c.stands(0, 1), 45);
        Checks.tell(c, "thing 0 turning 3");
        due("stands", c.stands(0, 1), 37);
        Checks.tell(c, "thing 0 plain;bare 0;lump 0 200 1;wind 1");
        due("WIND goes on", c.stands(0, -10), 0);
        due("WIND goes on", c.stands(0, -9), NONE);
        due("stands", c.stands(4, 1000), UNKNOWN);
        due("stands", c.stands(-1, 0), UNKNOWN);
        due("stands", c.stands(1, 1000), OUTSIDE);
        due("stands", c.stands(0, -1000), OUTSIDE);
        due("stands", c.stands(1, 999), NOT);
    }

    private void two() {
        group = "promise 19";
        // M is X, one TICK each: 1 1 3 5 15 25 75 125 and 1 2 3 9 15 45 75 225
        OnChin c = Checks.told("man 10 0 0 99 0;pull 1;lump 0 1 1;lump 1 1 1;lump 2 300 1");
        due("two", c.two(0, 1, 1, 1, 1, 1), 7);
        due("two, the same THING", c.two(0, 1, 0, 1, 1, 1), 7);
        // the first alone is minded long enough: the second is 1 2 5 13 34 89 233
        due("two", c.two(0, 1, 1, 1, 9, 1), 6);
        due("two", c.two(0, 0, 1, 1, 9, 9), 6);
        due("two", c.two(0, 0, 1, 0, 1, 9), 400);
        // minded from TICK 5 on: 1 2 5 13 34 89, then X 89 by V 144 less M 89
        due("two", c.two(2, 0, 1, 1, 5, 1), 6);
        due("two", c.two(2, 0, 2, 99, 1, 1), 400);
        due("as it begins", c.two(2, 101, 2, 0, 1, 1), 0);
        due("as it begins", c.two(2, 0, 2, -101, 1, 1), 0);
        due("two", c.two(4, 1000, 0, 0, 0, 0), UNKNOWN);
        due("two", c.two(0, 1000, -1, 0, 0, 0), UNKNOWN);
        due("two", c.two(3, 1000, 0, 0, 1, 1), OUTSIDE);
        due("two", c.two(0, 0, 3, -1000, 1, 1), OUTSIDE);
        due("two", c.two(0, 0, 0, 0, 0, 1), OUTSIDE);
        due("two", c.two(0, 0, 0, 0, 10, 1), OUTSIDE);
        due("two", c.two(0, 0, 0, 0, 1, 0), OUTSIDE);
        due("two", c.two(0, 0, 0, 0, 1, 10), OUTSIDE);
        due("two", c.two(0, 0, 3, 0, 1, 1), NOT);
        due("two", c.two(3, 0, 0, 0, 1, 1), NOT);
    }

    private void film() {
        group = "promises 20, 21";
        OnChin c = new OnChin();
        due("wind", c.wind(), 0);
        due("film", c.film(1000, 0), OUTSIDE);
        due("film", c.film(-1000, 0), OUTSIDE);
        due("film", c.film(0, 100), OUTSIDE);
        due("film", c.film(0, -100), OUTSIDE);
        due("film", c.film(LOW, HIGH), OUTSIDE);
        due("rows", c.count(10), 0);
        for (int i = 1; i <= 24; i++) {
            due("film", c.film(i % 2 == 0 ? 999 : -999, i % 2 == 0 ? 99 : -99), i);
        }
        due("film", c.film(0, 0), FULL);
        due("film", c.film(1000, 0), OUTSIDE);
        due("rows", c.count(10), 24);
        due("wind", c.wind(), 24);
        due("rows", c.count(10), 0);
        due("fits all", c.fits(0), 3087);
        due("film", c.film(0, 0), 1);
    }

    private void fits() {
        group = "promise 22";
        OnChin c = Checks.told("man 0 0 0 30 0");
        due("fits", c.fits(-1), OUTSIDE);
        due("fits", c.fits(4), OUTSIDE);
        due("fits", c.fits(HIGH), OUTSIDE);
        due("all fit", c.fits(0), 3087);
        due("the first", c.fits(1), 0);
        due("the first", c.fits(2), 0);
        due("the first", c.fits(3), 0);
        c.film(10, 12);
        // A is 12; 7 LATE and 21 B
        due("fits", c.fits(0), 147);
        due("the first", c.fits(1), 0);
        due("the first", c.fits(2), 12);
        due("the first", c.fits(3), 0);
        c.film(14, 12);
        // not LATE 0
        due("fits", c.fits(0), 126);
        due("the first", c.fits(1), 1);
        c.film(20, 22);
        // LATE 1: 168 + 4 B is 220 .. 229, B 13 14 15; others still see 10
        due("fits", c.fits(0), 3);
        due("the first", c.fits(1), 1);
        due("the first", c.fits(2), 12);
        due("the first", c.fits(3), 13);
        Checks.tell(c, "floor 0;thing 0 jointed 9");
        due("FLOOR does not matter", c.fits(0), 3);
        Checks.tell(c, "man 0 0 0 21 0");
        due("REACH does", c.fits(0), 0);
        for (int what = 1; what < 4; what++) {
            due("none", c.fits(what), NONE);
        }
        c.wind();
        Checks.tell(c, "man 0 0 0 20 11");
        c.film(-10, 0);
        due("DEAD does", c.fits(0), 3087);
        c.film(-11, -11);
        // LATE 0 alone sees -11: 11 A + B is 110 .. 119
        due("fits", c.fits(0), 20);
        due("the first", c.fits(2), 9);
        due("the first", c.fits(3), 11);
    }

    private void next() {
        group = "promise 23";
        OnChin c = new OnChin();
        due("next", c.next(1000, 0), OUTSIDE);
        due("next", c.next(-1000, 0), OUTSIDE);
        due("next", c.next(0, 2), OUTSIDE);
        due("next", c.next(0, -1), OUTSIDE);
        due("next", c.next(5, 0), 1000);
        due("next", c.next(5, 1), 1010);
        due("next", c.next(-5, 0), 990);
        due("next", c.next(-5, 1), 1000);
        due("REACH", c.next(999, 1), 1020);
        due("REACH", c.next(-999, 0), 980);
        Checks.tell(c, "man 0 0 0 30 0");
        c.film(10, 12);
        c.film(14, 12);
        // LATE 1: (168 + 4 B) / 10, others 12
        due("next", c.next(20, 0), 1012);
        due("next", c.next(20, 1), 1024);
        due("no row more", c.count(10), 2);
        c.film(20, 22);
        // LATE 1, A 12, B 13 .. 15: (240 + 6 B) / 10 and REACH
        due("next", c.next(-999, 0), 1030);
        Checks.tell(c, "man 0 0 0 99 0");
        due("next", c.next(-999, 0), 1031);
        due("next", c.next(-999, 1), 1033);
        c.film(0, 0);
        due("nothing FITS", c.next(0, 0), NONE);
        due("nothing FITS", c.next(0, 1), NONE);
        due("next", c.next(0, 2), OUTSIDE);
        c.wind();
        for (int i = 0; i < 24; i++) {
            c.film(i, 0);
        }
        due("next behind 24 rows", c.next(999, 0), 1000);
        Checks.tell(c, "man 0 0 0 99 24");
        due("DEAD: what comes alone is seen", c.next(999, 1), 1099);
    }

    private void duePlan(OnChin c, int tenths, int... things) {
        due("plan", c.plan(things.length, NONE), tenths);
        for (int i = 0; i < things.length; i++) {
            due("plan of " + things.length + ", " + i, c.plan(things.length, i), things[i]);
        }
    }

    private void plan() {
        group = "promise 24";
        OnChin c = Checks.told("man 0 0 6 1 0;pull 1");
        due("plan", c.plan(0, NONE), OUTSIDE);
        due("plan", c.plan(6, NONE), OUTSIDE);
        due("plan", c.plan(3, 3), OUTSIDE);
        due("plan", c.plan(3, -2), OUTSIDE);
        due("plan", c.plan(HIGH, LOW), OUTSIDE);
        for (int i = NONE; i < 5; i++) {
            due("no THING has LUMPS", c.plan(5, i), NONE);
        }
        // X 10 is not pulled by LONG above 10; by LONG 10 it is lost
        Checks.tell(c, "lump 0 300 1;lump 1 20 1;lump 2 11 1;lump 3 10 1");
        duePlan(c, 54, 2);
        duePlan(c, 30, 2, 2, 2, 2, 2);
        Checks.tell(c, "man 0 0 1 1 0");
        duePlan(c, 4, 2);
        duePlan(c, 0, 1, 1);
        duePlan(c, 0, 0, 1, 1);
        duePlan(c, 0, 0, 0, 1, 1);
        duePlan(c, 0, 0, 0, 0, 0, 2);
        Checks.tell(c, "bare 0;bare 1;bare 2");
        duePlan(c, 10, 3, 3);
        due("LATE is as told", c.count(2), 1);
        Checks.tell(c, "bare 3;lump 2 179 1");
        // 200 by 199 is 1; then by 201 it is 0, and 1 at least
        duePlan(c, 9, 2);
        Checks.tell(c, "bare 2;lump 2 181 1");
        duePlan(c, 9, 2);
        Checks.tell(c, "bare 2;lump 2 47 1");
        duePlan(c, 8, 2);
        Checks.tell(c, "man 0 0 0 1 0");
        duePlan(c, 0, 2, 2, 2);
        Checks.tell(c, "bound 9");
        duePlan(c, 0, 2);
        Checks.tell(c, "man 0 0 2 1 0");
        duePlan(c, 20, 2);
        // WIND carries it away, by BOUND in 39 TICKS or in 40
        Checks.tell(c, "bare 2;lump 2 300 1;bound 930;wind 1");
        due("kept", c.kept(2, 10, 0), 39);
        duePlan(c, 20, 2);
        Checks.tell(c, "bound 931");
        due("kept", c.kept(2, 10, 0), 40);
        duePlan(c, 19, 2);
    }

    private void planByLate() {
        group = "promise 24, LATE by tenths";
        // what is kept hangs on LATE: compare with all plans, tried one by one
        String[] men = {"man 8 20 2 40 0", "man 6 20 3 60 0", "man 12 30 1 50 0", "man 5 15 4 99 0"};
        for (String man : men) {
            for (int height = 40; height <= 300; height += 52) {
                String text = man + ";lump 0 300 1;lump 1 " + height + " 1;lump 3 " + (height - 30) + " 1";
                OnChin c = Checks.told(text);
                Oracle o = new Oracle();
                o.text = text;
                o.chin();
                for (int n = 1; n <= 5; n++) {
                    for (int i = NONE; i < n; i++) {
                        due(text + ": plan " + n + " " + i, c.plan(n, i), o.plan(n, i));
                    }
                }
            }
        }
    }

    private void house() {
        group = "promises 25, 26";
        OnChin c = Checks.told("lump 0 200 1;lump 1 40 1;lump 1 20 1");
        due("room", c.room(36, 100, 301), UNKNOWN);
        due("room", c.room(-1, 0, 0), UNKNOWN);
        due("room", c.room(LOW, 0, 0), UNKNOWN);
        due("room", c.room(0, 100, 0), OUTSIDE);
        due("room", c.room(0, -1, 0), OUTSIDE);
        due("room", c.room(0, 0, 301), OUTSIDE);
        due("room", c.room(0, 0, -1), OUTSIDE);
        due("nothing changed", c.room(0, 99, 300), 0);
        due("room", c.room(0, 3, 0), 99);
        due("room", c.room(0, 3, 0), 3);
        due("one step", c.way(0, 0, 1, 99, 0), 1);
        due("both ends", c.way(0, 0, 1, 99, 1), 3);
        due("both ends", c.way(0, 1, 0, 99, 1), 3);
        due("corner to corner", c.way(0, 0, 35, 99, 0), 10);
        due("rows do not wrap", c.way(0, 5, 6, 99, 0), 6);
        due("an end in a DRAUGHT", c.way(0, 0, 1, 2, 0), NONE);
        due("an end in a DRAUGHT", c.way(0, 1, 0, 2, 1), NONE);
        due("there already", c.way(0, 0, 0, 3, 0), 0);
        due("there already", c.way(0, 0, 0, 3, 1), 3);
        due("there already", c.way(0, 0, 0, 2, 0), NONE);
        // two ways of two steps: by 1 (DRAUGHT 5) or by 6 (4)
        c.room(1, 5, 0);
        c.room(6, 4, 0);
        c.room(7, 9, 0);
        due("least DRAUGHT", c.way(0, 0, 7, 9, 1), 16);
        due("least DRAUGHT", c.way(0, 7, 0, 9, 1), 16);
        c.room(6, 4, 200);
        due("a LAMP as high as it", c.way(0, 0, 7, 9, 1), 17);
        due("a LAMP above it", c.way(1, 0, 7, 9, 1), 16);
        c.room(6, 4, 201);
        due("a LAMP above it", c.way(0, 0, 7, 9, 1), 16);
        c.room(7, 9, 40);
        due("a LAMP at the end", c.way(1, 0, 7, 9, 0), NONE);
        c.room(7, 9, 41);
        due("by its greatest HEIGHT", c.way(1, 0, 7, 9, 0), 2);
        c.room(7, 9, 39);
        due("a LAMP below it", c.way(1, 0, 7, 9, 0), NONE);
        due("way", c.way(4, 0, 0, 100, 2), UNKNOWN);
        due("way", c.way(0, 36, 0, 100, 2), UNKNOWN);
        due("way", c.way(0, 0, -1, 100, 2), UNKNOWN);
        due("way", c.way(2, 0, 0, 100, 0), OUTSIDE);
        due("way", c.way(0, 0, 0, -1, 0), OUTSIDE);
        due("way", c.way(0, 0, 0, 0, 2), OUTSIDE);
        due("way", c.way(0, 0, 0, 0, -1), OUTSIDE);
        due("way", c.way(2, 0, 0, 99, 1), NOT);
    }

    private void wayEdges() {
        group = "promise 26, round about";
        // a wall of DRAUGHT 50 in column 3, open in row 5 alone; steps count first
        OnChin c = Checks.told("lump 0 100 1");
        for (int row = 0; row < 5; row++) {
            c.room(6 * row + 3, 50, 0);
        }
        due("through the wall", c.way(0, 2, 4, 50, 0), 2);
        due("through the wall", c.way(0, 2, 4, 50, 1), 50);
        due("round about", c.way(0, 2, 4, 49, 0), 12);
        due("round about", c.way(0, 2, 4, 49, 1), 0);
        c.room(33, 0, 100);
        due("no way", c.way(0, 2, 4, 49, 0), NONE);
        due("no way", c.way(0, 2, 4, 49, 1), NONE);
        // a snake through all rows
        c = Checks.told("lump 0 100 1");
        for (int cell = 0; cell < 36; cell++) {
            boolean wall = cell / 6 % 2 == 1 && cell != 11 && cell != 18 && cell != 23 && cell != 35;
            c.room(cell, wall ? 99 : 1, 0);
        }
        c.room(18, 1, 0);
        c.room(23, 99, 0);
        due("a long way", c.way(0, 0, 35, 98, 0), 20);
        due("a long way", c.way(0, 0, 35, 98, 1), 21);
    }

    private void count() {
        group = "promise 27";
        OnChin c = Checks.told("man 11 12 3 14 15;floor 16;pull 17;bound 18;wind 19;shake 20");
        int[] told = {11, 12, 3, 14, 15, 16, 17, 18, 19, 20};
        for (int what = 0; what < told.length; what++) {
            due("count " + what, c.count(what), told[what]);
        }
        c.film(1, 1);
        c.film(2, 2);
        c.write(0, 3);
        due("rows", c.count(10), 2);
        due("bytes", c.count(11), 3);
        for (int what : new int[] {-1, 12, LOW, HIGH}) {
            due("count " + what, c.count(what), OUTSIDE);
        }
    }
}
