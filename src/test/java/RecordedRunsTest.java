import java.io.IOException;
import java.nio.file.Files;
import java.nio.file.Path;
import java.util.List;

/**
 * Runs of calls under src/test/runs, each row a call with the answer that is due. The answers were worked
 * out by other programs, which were written from the document alone.
 */
final class RecordedRunsTest {
    private static final Check check = new Check();

    public static void main(String[] arguments) throws IOException {
        Path runs = Path.of("src", "test", "runs");
        int found = 0;
        try (var files = Files.newDirectoryStream(runs, "*.txt")) {
            for (Path file : files) {
                run(file);
                found++;
            }
        }
        check.due("there are runs", found > 0, true);
        check.end();
    }

    private static void run(Path file) throws IOException {
        SlideDeck deck = new SlideDeck();
        List<String> rows = Files.readAllLines(file);
        for (int i = 0; i < rows.size(); i++) {
            String[] parts = rows.get(i).split(" ");
            long[] a = new long[parts.length - 3];
            for (int j = 0; j < a.length; j++) {
                a[j] = Long.parseLong(parts[j + 1]);
            }
            String answer = Caller.answer(deck, parts[0], a);
            check.due(file.getFileName() + " row " + (i + 1) + ", " + parts[0], answer, parts[parts.length - 1]);
        }
    }
}
