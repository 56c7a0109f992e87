import java.io.IOException;
import java.nio.charset.StandardCharsets;
import java.nio.file.Files;
import java.nio.file.Path;

/** What README.md says of the example's calls is what they answer. */
public final class ReadmeTests {
    private final Checks checks = new Checks();
    private final String readme;

    private ReadmeTests(String readme) {
        this.readme = readme;
    }

    public static void main(String[] args) throws IOException {
        ReadmeTests tests = new ReadmeTests(Files.readString(Path.of("README.md"), StandardCharsets.UTF_8));
        tests.example();
        tests.testsNamed();
        tests.checks.end();
    }

    /** The README's line with this code must say this answer behind it. */
    private void says(String code, int answer) {
        String said = answer == OnChin.NOT ? "NOT" : Integer.toString(answer);
        boolean isSaid = readme.lines()
            .anyMatch(line -> line.startsWith(code + ";") && line.contains("// " + said + ":"));
        checks.due("README: " + code + " answers " + answer, isSaid ? 1 : 0, 1);
    }

    private void example() {
        OnChin chin = new OnChin();
        String text = "lump 0 100 5; lump 1 80 1; thing 1 turning 4";
        says("tell(chin, \"" + text + "\")", Checks.tell(chin, text));
        says("tell(chin, \"lump 0 301 1\")", Checks.tell(chin, "lump 0 301 1"));
        says("chin.fault()", chin.fault());
        says("chin.erase()", chin.erase());
        says("chin.begin(0, 30, 0)", chin.begin(0, 30, 0));
        says("chin.ticks(1)", chin.ticks(1));
        says("int lean = chin.now(0) - 1000000", chin.now(0) - 1000000);
        says("chin.keep(0)", chin.keep(0));
        says("chin.kept(0, 30, 0)", chin.kept(0, 30, 0));
        says("chin.steady(1, 2)", chin.steady(1, 2));
        says("chin.film(10, 12)", chin.film(10, 12));
        says("chin.fits(0)", chin.fits(0));
        says("chin.plan(2, OnChin.NONE)", chin.plan(2, OnChin.NONE));
        says("chin.room(7, 5, 250)", chin.room(7, 5, 250));
        says("chin.way(0, 0, 14, 9, 0)", chin.way(0, 0, 14, 9, 0));
    }

    /** Each test there is has its line. */
    private void testsNamed() throws IOException {
        try (var files = Files.list(Path.of("src/test/java"))) {
            files.map(file -> file.getFileName().toString().replace(".java", "")).sorted()
                .forEach(name -> checks.due("README names " + name, readme.contains("`" + name + "`") ? 1 : 0, 1));
        }
    }
}
