import java.io.IOException;
import java.nio.charset.StandardCharsets;
import java.nio.file.Files;
import java.nio.file.Path;
import java.util.Arrays;
import java.util.Set;
import java.util.TreeSet;

/**
 * KEPT, and what the document tells by it, from the rows of src/test/data/how-long.txt: THINGS of all
 * four kinds that fall at once, that fall late and that have not FALLEN by 400, with WIND, SHAKE,
 * LATE and DEAD told otherwise than at first, each alone and all together.
 */
public final class HowLongRows {
    private static final Path ROWS = Path.of("src/test/data/how-long.txt");
    private static final int NONE = OnChin.NONE, TICKS = 400;
    private static final String[] KINDS = {"plain", "turning", "wet", "jointed"};
    private static final String[] FATES = {"at once", "late", "not by 400"};
    private static final String[] OTHERWISE = {"WIND ", "SHAKE ", "LATE ", "DEAD ", "WIND SHAKE LATE DEAD "};
    /** Long searches found none: sooner or later WIND alone carries these away. */
    private static final Set<String> NOT_FOUND = Set.of(
        "STEADY plain WIND not by 400", "STEADY wet WIND not by 400", "STEADY jointed WIND not by 400",
        "BEST plain WIND not by 400", "BEST wet WIND not by 400", "BEST jointed WIND not by 400",
        "LINE plain WIND not by 400");

    private final Checks checks = new Checks();
    private final Set<String> seen = new TreeSet<>();

    /** One row: what is told, what is asked, and what is due. */
    private static final class Row {
        final String things;
        final String told;
        final int[] asked;
        final int[] due;

        Row(String line) {
            String[] parts = line.split("\\|", -1);
            things = parts[0].strip();
            told = parts[1].strip();
            asked = numbers(parts[2]);
            due = numbers(parts[3]);
        }

        private static int[] numbers(String text) {
            String[] words = text.isBlank() ? new String[0] : text.strip().split(" ");
            return Arrays.stream(words).mapToInt(Integer::parseInt).toArray();
        }

        OnChin chin() {
            OnChin chin = Checks.told(told);
            if (!things.equals("-")) {
                Checks.tell(chin, things);
            }
            return chin;
        }

        Oracle oracle() {
            Oracle oracle = new Oracle();
            for (String text : new String[] {told, things}) {
                oracle.text = text;
                oracle.chin();
            }
            return oracle;
        }

        @Override
        public String toString() {
            return things + " | " + told + " | " + Arrays.toString(asked);
        }
    }

    public static void main(String[] args) throws IOException {
        HowLongRows test = new HowLongRows();
        String section = "";
        for (String line : Files.readAllLines(ROWS, StandardCharsets.US_ASCII)) {
            if (line.contains("|") && !line.startsWith("#")) {
                test.ask(section, new Row(line));
            } else if (!line.isBlank() && !line.startsWith("#")) {
                section = line.strip();
            }
        }
        test.allThereIs();
        test.checks.end();
    }

    private void ask(String section, Row row) {
        checks.sentence(section);
        switch (section) {
            case "KEPT" -> kept(row);
            case "NEARLY ROUND" -> nearlyRound(row);
            case "STEADY" -> steady(row);
            case "LINE" -> line(row);
            case "BEST" -> best(row);
            case "STANDS" -> stands(row);
            case "TWO" -> two(row);
            case "EVENING" -> evening(row);
            case "EVENINGS" -> evenings(row);
            default -> throw new IllegalArgumentException(section);
        }
    }

    /** Both OnChin and the Oracle are asked: the rows were reckoned by neither. */
    private void due(Row row, String call, int got, int oracle, int want) {
        checks.due(call + " of " + row, got, want);
        checks.due("the Oracle's " + call + " of " + row, oracle, want);
    }

    private void kept(Row row) {
        nearlyRound(row);
        note("KEPT", row, fate(row.due[0]));
        OnChin c = row.chin();
        int fallen = c.count(7) + 1;
        if (fallen <= 999) {
            checks.due("as it begins, " + row, c.kept(0, fallen, row.asked[1]), 0);
            checks.due("as it begins, " + row, c.kept(0, -fallen, row.asked[1]), 0);
        }
    }

    private void nearlyRound(Row row) {
        int x = row.asked[0];
        int v = row.asked[1];
        OnChin c = row.chin();
        Oracle o = row.oracle();
        due(row, "kept", c.kept(0, x, v), o.kept(0, x, v), row.due[0]);
        checks.due("kept, asked again, of " + row, c.kept(0, x, v), row.due[0]);
        if (c.count(8) == 0) {
            checks.due("kept to the other side, " + row, row.chin().kept(0, -x, -v), row.due[0]);
        }
    }

    private void steady(Row row) {
        int k = row.asked[0];
        note("STEADY", row, fate(row.due[0]));
        OnChin c = row.chin();
        due(row, "steady", c.steady(0, k), row.oracle().steady(0, k), row.due[0]);
        int least = TICKS;
        for (int x = -k; x <= k; x++) {
            least = Math.min(least, c.kept(0, x, 0));
        }
        checks.due("the least kept of " + row, least, row.due[0]);
    }

    private void line(Row row) {
        int k = row.asked[0];
        OnChin c = row.chin();
        due(row, "line", c.line(k), row.oracle().line(k), row.due[0]);
        int below = row.due[0] == NONE ? 300 : row.due[0] - 1;
        Checks.tell(c, "lump 0 " + below + " 7");
        int lost = c.steady(0, k);
        checks.due("a HEIGHT of " + below + " is not STEADY, " + row, lost, Math.min(lost, TICKS - 1));
        note("LINE", row, row.due[0] == NONE ? fate(lost) : FATES[2]);
    }

    private void best(Row row) {
        int k = row.asked[0];
        OnChin c = row.chin();
        Oracle o = row.oracle();
        for (int what = 0; what < 3; what++) {
            due(row, "best " + what, c.best(0, k, what), o.best(0, k, what), row.due[what]);
        }
        // without WIND X 0 stays where it is
        int least = (2 * k + 1) + (c.count(8) == 0 ? TICKS - 1 : 0);
        String late = row.due[0] < TICKS * (2 * k + 1) ? "late" : "not by 400";
        note("BEST", row, row.due[0] <= least ? "at once" : late);
    }

    private void stands(Row row) {
        int x = row.asked[0];
        OnChin c = row.chin();
        due(row, "stands", c.stands(0, x), row.oracle().stands(0, x), row.due[0]);
        int fallen = c.count(7) + 1;
        checks.due("as it begins, " + row, c.stands(0, Math.min(fallen, 999)), fallen <= 999 ? NONE : row.due[0]);
        // the same by KEPT: A 0 and B 0 do not mind
        int longest = 0;
        int last = row.due[0] == NONE ? 99 : row.due[0];
        for (int shake = 0; shake <= last; shake++) {
            OnChin alone = row.chin();
            Checks.tell(alone, "man 0 0 0 1 0;shake " + shake);
            int kept = alone.kept(0, x, 0);
            longest = Math.max(longest, kept);
            checks.due("kept by 400 at SHAKE " + shake + " of " + row, kept == TICKS ? 1 : 0,
                shake == row.due[0] ? 1 : 0);
        }
        note("STANDS", row, fate(longest));
    }

    private void two(Row row) {
        int[] a = row.asked;
        note("TWO", row, fate(row.due[0]));
        OnChin c = row.chin();
        due(row, "two", c.two(0, a[0], 1, a[1], a[2], a[3]), row.oracle().two(0, a[0], 1, a[1], a[2], a[3]),
            row.due[0]);
        int fallen = c.count(7) + 1;
        if (fallen <= 999) {
            checks.due("the first as it begins, " + row, c.two(0, fallen, 1, a[1], a[2], a[3]), 0);
            checks.due("the second as it begins, " + row, c.two(0, a[0], 1, -fallen, a[2], a[3]), 0);
        }
    }

    /** One EVENING with one THING: how long it is KEPT, then tenths behind. */
    private void evening(Row row) {
        OnChin c = row.chin();
        Oracle o = row.oracle();
        due(row, "kept", c.kept(0, 10, 0), o.kept(0, 10, 0), row.due[0]);
        due(row, "plan 1", c.plan(1, NONE), o.plan(1, NONE), row.due[1]);
        checks.due("the THING of " + row, c.plan(1, 0), 0);
        note("EVENING", row, row.due[0] == 1 ? "at once" : row.due[0] < TICKS ? "late" : "not by 400");
    }

    private void evenings(Row row) {
        int n = row.asked[0];
        OnChin c = row.chin();
        Oracle o = row.oracle();
        for (int i = NONE; i < n; i++) {
            due(row, "plan " + i, c.plan(n, i), o.plan(n, i), row.due[i + 1]);
        }
    }

    private static String fate(int kept) {
        return kept <= 1 ? FATES[0] : kept < TICKS ? FATES[1] : FATES[2];
    }

    private void note(String section, Row row, String fate) {
        OnChin c = row.chin();
        String otherwise = (c.count(8) != 0 ? "WIND " : "") + (c.count(9) != 0 ? "SHAKE " : "")
            + (c.count(2) != 1 ? "LATE " : "") + (c.count(4) != 0 ? "DEAD " : "");
        // LINE has no THINGS of its own: it is about PLAIN ones
        String things = row.things.equals("-") ? KINDS[0] : row.things;
        for (String kind : KINDS) {
            if (things.contains(kind)) {
                seen.add(section + " " + kind + " " + otherwise + fate);
            }
        }
    }

    /** A row taken out of the file is missed. */
    private void allThereIs() {
        checks.sentence("the rows");
        for (String section : new String[] {"KEPT", "STEADY", "BEST", "STANDS", "TWO", "EVENING"}) {
            for (String kind : KINDS) {
                allOf(section + " " + kind + " ");
            }
        }
        allOf("LINE plain ");
    }

    private void allOf(String which) {
        for (String otherwise : OTHERWISE) {
            for (String fate : FATES) {
                String row = which + otherwise + fate;
                checks.due("there is " + row, seen.contains(row) ? 1 : 0, NOT_FOUND.contains(row) ? 0 : 1);
            }
        }
    }
}
