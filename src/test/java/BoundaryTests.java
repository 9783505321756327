import java.io.IOException;
import java.nio.file.Files;
import java.nio.file.Path;

/** A test for each sentence of the document; the second argument is the document's file. */
final class BoundaryTests {
    private static final int LAST_PROMISE = 27;

    public static void main(String[] args) throws IOException {
        Sentences sentences = new Sentences();
        Boundaries[] groups = {new RowBoundaries(sentences), new SeriesBoundaries(sentences),
            new SettingBoundaries(sentences), new TextBoundaries(sentences), new HistoryBoundaries(sentences),
            new TableBoundaries(sentences), new GuessBoundaries(sentences)};
        for (Boundaries group : groups) {
            group.all();
        }
        sentences.end(new DocumentText(Files.readAllLines(Path.of(args[1]))), LAST_PROMISE);
    }
}
