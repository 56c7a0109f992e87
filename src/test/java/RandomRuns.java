import java.util.Random;

/** Long runs of random calls, answered by OnChin and by the Oracle. The seeds are fixed. */
public final class RandomRuns {
    private static final int RUNS = 400, CALLS = 512;
    private static final String[] WORDS = {"thing", "lump", "bare", "man", "floor", "pull", "bound",
        "wind", "shake", "plain", "turning", "wet", "jointed", ";", ";", " ", "x", "-", "things", "A"};

    private final Checks checks = new Checks();
    private final Random random;
    private final int seed;
    private final OnChin chin = new OnChin();
    private final Oracle oracle = new Oracle();

    private RandomRuns(int seed) {
        this.seed = seed;
        random = new Random(seed);
    }

    public static void main(String[] args) {
        int runs = args.length > 0 ? Integer.parseInt(args[0]) : RUNS;
        int first = args.length > 1 ? Integer.parseInt(args[1]) : 0;
        boolean clean = true;
        for (int seed = first; seed < first + runs && clean; seed++) {
            RandomRuns run = new RandomRuns(seed);
            run.go();
            clean = run.checks.isClean();
        }
        System.out.println(clean ? runs + " random runs are as due" : "a random run is not as due");
        if (!clean) {
            System.exit(1);
        }
    }

    private void go() {
        for (int i = 0; i < CALLS && checks.isClean(); i++) {
            if (i < 40 && random.nextInt(3) == 0) {
                tellSense();
            } else {
                call();
            }
        }
    }

    private int from(int least, int most) {
        return least + random.nextInt(most - least + 1);
    }

    /** Mostly within, now and then just outside, seldom far outside. */
    private int about(int least, int most) {
        int dice = random.nextInt(60);
        if (dice == 0) {
            return least - 1;
        }
        if (dice == 1) {
            return most + 1;
        }
        if (dice == 2) {
            return random.nextBoolean() ? Integer.MIN_VALUE : Integer.MAX_VALUE;
        }
        if (dice < 6) {
            return random.nextBoolean() ? least : most;
        }
        return from(least, most);
    }

    private int x() {
        return random.nextInt(3) == 0 ? about(-999, 999) : from(-40, 40);
    }

    private int thing() {
        return about(0, 3);
    }

    private void due(String call, int got, int want) {
        checks.due("seed " + seed + ": " + call, got, want);
    }

    private void put(String text) {
        for (int at = 0; at < text.length(); at += 8) {
            int n = Math.min(8, text.length() - at);
            long bytes = Checks.packed(text, at, n);
            due("write " + text, chin.write(bytes, n), oracle.write(bytes, n));
        }
    }

    private String sensibleLine() {
        int t = from(0, 3);
        switch (random.nextInt(12)) {
            case 0: return "thing " + t + " plain";
            case 1: return "thing" + t + "turning " + from(1, 9);
            case 2: return "thing " + t + " wet" + from(1, 9);
            case 3: return "thing " + t + " jointed " + from(1, 9);
            case 4: return random.nextInt(3) == 0 ? "bare " + t : "lump " + t + " 300 99";
            case 5: return "man " + from(0, 40) + " " + from(0, 40) + " " + from(0, 6) + " "
                    + from(1, 99) + " " + (random.nextInt(3) == 0 ? from(0, 99) : 0);
            case 6: return "man " + from(0, 12) + " " + from(0, 30) + " " + from(0, 2) + " 30 0";
            case 7: return random.nextBoolean() ? "floor " + from(0, 999) : "bound " + from(1, 999);
            case 8: return random.nextBoolean() ? "pull " + from(1, 99) : "pull " + from(1, 9);
            case 9: return random.nextBoolean() ? "wind " + from(0, 20) : "wind 0";
            case 10: return random.nextBoolean() ? "shake " + from(0, 99) : "shake 0";
            default: return "lump " + t + " " + from(1, 300) + " " + from(1, 99);
        }
    }

    private void tellSense() {
        due("erase", chin.erase(), oracle.erase());
        StringBuilder text = new StringBuilder(sensibleLine());
        for (int i = random.nextInt(8); i > 0; i--) {
            text.append(random.nextInt(4) == 0 ? " ; " : ";").append(sensibleLine());
        }
        put(text.toString());
        due("fault " + text, chin.fault(), oracle.fault());
        due("chin " + text, chin.chin(), oracle.chin());
    }

    private void tellNonsense() {
        due("erase", chin.erase(), oracle.erase());
        StringBuilder text = new StringBuilder();
        for (int i = random.nextInt(9); i >= 0; i--) {
            text.append(random.nextInt(6) == 0 ? WORDS[random.nextInt(WORDS.length)] : sensibleLine());
            text.append(i > 0 || random.nextInt(8) == 0 ? ";" : "");
        }
        for (int i = random.nextInt(4); i > 0 && text.length() > 0; i--) {
            spoil(text, random.nextInt(text.length()));
        }
        put(text.toString());
        due("fault " + text, chin.fault(), oracle.fault());
        due("chin " + text, chin.chin(), oracle.chin());
    }

    private void spoil(StringBuilder text, int at) {
        switch (random.nextInt(5)) {
            case 0: text.deleteCharAt(at); break;
            case 1: text.insert(at, ' '); break;
            case 2: text.insert(at, from(0, 9)); break;
            case 3: text.setCharAt(at, (char) from(0, 255)); break;
            default: text.insert(at, WORDS[random.nextInt(WORDS.length)]); break;
        }
    }

    private void call() {
        int dice = random.nextInt(100);
        if (dice < 25) {
            callTold(dice);
        } else if (dice < 50) {
            callTicks(dice - 25);
        } else if (dice < 72) {
            callHowLong(dice - 50);
        } else if (dice < 86) {
            callFilm(dice - 72);
        } else {
            callHouse(dice - 86);
        }
    }

    private void callTold(int dice) {
        int t = thing();
        int i = about(0, 3);
        int what = about(0, 4);
        long bytes = random.nextLong();
        int n = about(1, 8);
        switch (dice) {
            case 0: due("write " + bytes + " " + n, chin.write(bytes, n), oracle.write(bytes, n)); break;
            case 1: due("fault", chin.fault(), oracle.fault()); break;
            case 2: due("chin", chin.chin(), oracle.chin()); break;
            case 3: due("erase", chin.erase(), oracle.erase()); break;
            case 4: case 5: case 6: case 7:
                due("thing " + t + " " + what, chin.thing(t, what), oracle.thing(t, what));
                break;
            case 8: case 9: case 10:
                due("lump " + t + " " + i + " " + what % 3, chin.lump(t, i, what % 3), oracle.lump(t, i, what % 3));
                break;
            case 11: case 12: case 13: case 14: case 15: case 16: tellSense(); break;
            default: tellNonsense(); break;
        }
    }

    private void callTicks(int dice) {
        int t = thing();
        int x = x();
        int v = about(-99, 99) / (random.nextInt(3) == 0 ? 1 : 9);
        int what = about(0, 6);
        int k = about(0, 1);
        int n = random.nextBoolean() ? about(1, 100) : from(1, 5);
        if (dice < 4) {
            due("begin " + t + " " + x + " " + v, chin.begin(t, x, v), oracle.begin(t, x, v));
        } else if (dice < 12) {
            due("ticks " + n, chin.ticks(n), oracle.ticks(n));
        } else if (dice < 21) {
            due("now " + what, chin.now(what), oracle.now(what));
        } else if (dice < 23) {
            due("keep " + k, chin.keep(k), oracle.keep(k));
        } else {
            due("back " + k, chin.back(k), oracle.back(k));
        }
    }

    private void callHowLong(int dice) {
        int t = thing();
        int u = thing();
        int x = x();
        int y = x();
        int v = about(-99, 99) / 5;
        int k = about(0, 20);
        int few = about(0, 4);
        int what = about(0, 2);
        int p = about(1, 9);
        int q = about(1, 9);
        if (dice < 5) {
            due("kept " + t + " " + x + " " + v, chin.kept(t, x, v), oracle.kept(t, x, v));
        } else if (dice < 9) {
            due("steady " + t + " " + k, chin.steady(t, k), oracle.steady(t, k));
        } else if (dice < 10) {
            if (random.nextInt(12) == 0) {
                due("line " + k, chin.line(k), oracle.line(k));
            }
        } else if (dice < 11) {
            if (random.nextInt(12) == 0) {
                due("best " + t + " " + few + " " + what, chin.best(t, few, what), oracle.best(t, few, what));
            }
        } else if (dice < 14) {
            callOdds(t, x);
        } else if (dice < 18) {
            due("stands " + t + " " + x, chin.stands(t, x), oracle.stands(t, x));
        } else {
            due("two " + t + " " + x + " " + u + " " + y + " " + p + " " + q,
                chin.two(t, x, u, y, p, q), oracle.two(t, x, u, y, p, q));
        }
    }

    private void callOdds(int t, int x) {
        int n = about(0, 6);
        int w = about(0, 99);
        int p = about(0, 5);
        int part = about(0, 1);
        due("odds " + t + " " + x + " " + n + " " + w + " " + p + " " + part,
            chin.odds(t, x, n, w, p, part), oracle.odds(t, x, n, w, p, part));
    }

    private void callFilm(int dice) {
        int x = random.nextBoolean() ? about(-999, 999) : from(-30, 30);
        int what = about(0, 3);
        if (dice < 6) {
            int m = random.nextInt(8) == 0 ? about(-99, 99) : playedMove(x);
            due("film " + x + " " + m, chin.film(x, m), oracle.film(x, m));
        } else if (dice < 7) {
            if (random.nextInt(3) == 0) {
                due("wind", chin.wind(), oracle.wind());
            }
        } else if (dice < 10) {
            due("fits " + what, chin.fits(what), oracle.fits(what));
        } else {
            due("next " + x + " " + what % 2, chin.next(x, what % 2), oracle.next(x, what % 2));
        }
    }

    /** What the told man would do, so that films fit some rules. */
    private int playedMove(int x) {
        int t = oracle.film.size();
        java.util.List<int[]> more = new java.util.ArrayList<>(oracle.film);
        more.add(new int[] {x, 0});
        return Oracle.shown(more, oracle.now, t);
    }

    private void callHouse(int dice) {
        int t = thing();
        int from = about(0, 35);
        int to = about(0, 35);
        int n = about(1, 5);
        int i = about(-1, 4);
        int what = about(0, 1);
        int d = random.nextBoolean() ? about(0, 99) : 99;
        int count = about(0, 11);
        if (dice < 2) {
            due("plan " + n + " " + i, chin.plan(n, i), oracle.plan(n, i));
        } else if (dice < 6) {
            int draught = about(0, 99);
            int lamp = random.nextInt(4) == 0 ? about(0, 300) : 0;
            due("room " + from + " " + draught + " " + lamp,
                chin.room(from, draught, lamp), oracle.room(from, draught, lamp));
        } else if (dice < 11) {
            due("way " + t + " " + from + " " + to + " " + d + " " + what,
                chin.way(t, from, to, d, what), oracle.way(t, from, to, d, what));
        } else {
            due("count " + count, chin.count(count), oracle.count(count));
        }
    }
}
