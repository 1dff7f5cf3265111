import java.io.IOException;
import java.nio.file.Files;
import java.nio.file.Path;
import java.util.ArrayList;
import java.util.List;

/** The example of README.md: that it stands there as it is run here, and what it comes to. */
public final class ExampleTest {
    private static final Check CHECK = new Check();

    public static void main(String[] args) throws IOException {
        example();
        sameInReadme();
        CHECK.end();
    }

    private static void example() {
        // README begins
        RiichiTable table = new RiichiTable(7);     // the seed of the wall
        table.deal();                               // WALL -> TURN
        int phase = table.phase();
        for (int step = 0; step < 150 && phase < 3; step++) {
            if (phase == 2) {                       // CLAIMS: who can win does
                for (int p = 0; p < 4; p++) {
                    int options = table.options(p);
                    if (options != 0) {
                        phase = table.claim(p, (options & 16) != 0 ? 4 : 0, 0);
                    }
                }
            } else if (table.win() == RiichiTable.BAD) {
                phase = table.discard(table.drawn(), false);
            } else {
                phase = table.phase();
            }
        }
        int sum = 1000 * table.table(3);            // the sticks on the table
        for (int p = 0; p < 4; p++) {
            sum += table.points(p);
        }
        // README ends
        CHECK.due("phase", phase, 3);
        CHECK.due("points and sticks together", sum, 120000);
    }

    private static void sameInReadme() throws IOException {
        List<String> shown = new ArrayList<>();
        for (String line : Files.readAllLines(Path.of("README.md"))) {
            if (line.startsWith("    ")) shown.add(line.strip());
        }
        List<String> run = new ArrayList<>();
        boolean inside = false;
        for (String line : Files.readAllLines(Path.of("src/test/java/ExampleTest.java"))) {
            if (line.strip().equals("// README ends")) inside = false;
            if (inside) run.add(line.strip());
            if (line.strip().equals("// README begins")) inside = true;
        }
        CHECK.due("lines of the example are there", run.size() > 20, true);
        for (int i = 0; i < run.size(); i++) {
            CHECK.due("line of README: " + run.get(i), i < shown.size() && shown.get(i).equals(run.get(i)), true);
        }
    }
}
