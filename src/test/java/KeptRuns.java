import java.util.Random;

/**
 * KEPT alone, for very many things, men and places: OnChin does not follow to its end what goes
 * round, the Oracle does. The seeds are fixed.
 */
public final class KeptRuns {
    private static final int RUNS = 6000, LEANS = 12;

    private final Checks checks = new Checks();
    private final Random random;

    private KeptRuns(int seed) {
        random = new Random(seed);
    }

    public static void main(String[] args) {
        int runs = args.length > 0 ? Integer.parseInt(args[0]) : RUNS;
        KeptRuns test = new KeptRuns(args.length > 1 ? Integer.parseInt(args[1]) : 1);
        for (int i = 0; i < runs && test.checks.isClean(); i++) {
            test.tryOne();
        }
        test.checks.end();
    }

    private int from(int least, int most) {
        return least + random.nextInt(most - least + 1);
    }

    private int seldom(int most) {
        return random.nextInt(3) == 0 ? from(0, most) : 0;
    }

    private void tryOne() {
        String[] kinds = {"plain", "turning " + from(1, 9), "wet " + from(1, 9), "jointed " + from(1, 9)};
        String text = "man " + from(0, 20) + " " + from(0, 30) + " " + from(0, 3) + " " + from(1, 40) + " "
            + seldom(12) + ";thing 0 " + kinds[from(0, 3)] + ";lump 0 " + from(1, 300) + " 1;floor "
            + (random.nextInt(3) == 0 ? from(0, 20) : 400) + ";pull " + from(1, random.nextBoolean() ? 9 : 40)
            + ";bound " + from(1, 300) + ";wind " + seldom(2) + ";shake " + seldom(60);
        OnChin chin = Checks.told(text);
        Oracle oracle = new Oracle();
        oracle.text = text;
        oracle.chin();
        for (int i = 0; i < LEANS; i++) {
            int x = from(-25, 25);
            int v = seldom(5);
            checks.due(text + ": kept 0 " + x + " " + v, chin.kept(0, x, v), oracle.kept(0, x, v));
        }
        int k = from(0, 20);
        checks.due(text + ": steady 0 " + k, chin.steady(0, k), oracle.steady(0, k));
    }
}
