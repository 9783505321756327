import java.util.ArrayList;
import java.util.LinkedHashMap;
import java.util.List;
import java.util.Map;
import java.util.TreeSet;

/**
 * Tests that stand for sentences of the document. Each one names the promise and
 * the sentence; in the end the sentences are looked for in the document itself,
 * so that none is quoted wrongly and none is without a test.
 */
final class Sentences {
    private final Checks checks = new Checks();
    private final Map<String, List<String>> quotes = new LinkedHashMap<>();
    private final TreeSet<Integer> promises = new TreeSet<>();
    private String now = "";
    private int tests = 0;

    /** A test for a sentence that stands under the heading of a promise. */
    void promise(int number, String sentence, Runnable test) {
        promises.add(number);
        run("Promise " + number, "Promise " + number, sentence, test);
    }

    /** A test for a sentence of the terms, and the promises in which it shows. */
    void term(String heading, String shows, String sentence, Runnable test) {
        run("Promise " + shows + " (" + heading + ")", heading, sentence, test);
    }

    /** A sentence that only says where another one stands: there is nothing to test. */
    void untested(String heading, String sentence) {
        quotes.computeIfAbsent(heading, key -> new ArrayList<>()).add(sentence);
    }

    private void run(String promise, String heading, String sentence, Runnable test) {
        untested(heading, sentence);
        now = promise + ", \"" + sentence + "\": ";
        tests++;
        int before = checks.made();
        try {
            test.run();
        } catch (RuntimeException thrown) {
            checks.dueText(now + "the test", "threw " + thrown, "ended");
        }
        if (checks.made() == before) {
            checks.dueText(now + "the test", "made no check", "checks");
        }
    }

    void due(String what, long got, long want) {
        checks.due(now + what, got, want);
    }

    void dueD(String what, double got, double want) {
        checks.dueD(now + what, got, want);
    }

    void dueText(String what, String got, String want) {
        checks.dueText(now + what, got, want);
    }

    void end(DocumentText document, int lastPromise) {
        for (int number = 1; number <= lastPromise; number++) {
            checks.dueText("Promise " + number, promises.contains(number) ? "has tests" : "has no test", "has tests");
        }
        for (String heading : quotes.keySet()) {
            for (String sentence : quotes.get(heading)) {
                boolean there = document.holds(heading, sentence);
                checks.dueText(heading + ", \"" + sentence + "\"", there ? "stands there" : "does not stand there",
                        "stands there");
            }
        }
        for (String heading : document.headings()) {
            List<String> quoted = quotes.getOrDefault(heading, List.of());
            checks.dueText("without a test in " + heading, document.without(heading, quoted), "");
        }
        System.out.println("BoundaryTests: " + tests + " sentences");
        checks.end("BoundaryTests");
    }
}
