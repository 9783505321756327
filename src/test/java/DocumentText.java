import java.util.LinkedHashMap;
import java.util.List;
import java.util.Map;
import java.util.Set;

/** The text of ../shared/DOC.md by its headings: "Promise 2", "ROWS" and so on. */
final class DocumentText {
    private final Map<String, String> bodies = new LinkedHashMap<>();

    DocumentText(List<String> lines) {
        String heading = "";
        StringBuilder body = new StringBuilder();
        for (String line : lines) {
            String next = headingOf(line);
            if (next.isEmpty()) {
                body.append(line).append(' ');
                continue;
            }
            put(heading, body.toString());
            heading = next;
            body.setLength(0);
        }
        put(heading, body.toString());
    }

    private static String headingOf(String line) {
        if (line.startsWith("## ")) {
            return line.substring(3).replaceAll(":.*", "");
        }
        return line.matches("[A-Z]{4,}") ? line : "";
    }

    /** The signature of a call, which stands ahead of a promise, is the compiler's to test. */
    private void put(String heading, String body) {
        String text = plain(body);
        bodies.put(heading, heading.startsWith("Promise ") ? text.replaceFirst("^`[^`]*`: ", "") : text);
    }

    private static String plain(String text) {
        return text.replaceAll("\\s+", " ").trim();
    }

    boolean holds(String heading, String sentence) {
        return bodies.getOrDefault(heading, "").contains(plain(sentence));
    }

    /** The headings of which each word is to have a test: the promises and the terms. */
    Set<String> headings() {
        Map<String, String> wanted = new LinkedHashMap<>(bodies);
        wanted.keySet().removeIf(heading -> !heading.startsWith("Promise ") && !heading.matches("[A-Z]{4,}"));
        return wanted.keySet();
    }

    /** What stands under a heading and in none of the sentences. */
    String without(String heading, List<String> sentences) {
        String body = bodies.getOrDefault(heading, "");
        boolean[] covered = new boolean[body.length()];
        for (String sentence : sentences) {
            String wanted = plain(sentence);
            for (int at = body.indexOf(wanted); at >= 0; at = body.indexOf(wanted, at + 1)) {
                java.util.Arrays.fill(covered, at, at + wanted.length(), true);
            }
        }
        StringBuilder left = new StringBuilder();
        for (int at = 0; at < body.length(); at++) {
            left.append(covered[at] ? ' ' : body.charAt(at));
        }
        return left.toString().replaceAll("[^\\p{L}\\p{N}]+", " ").trim();
    }
}
