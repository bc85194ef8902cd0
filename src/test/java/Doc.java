import java.io.IOException;
import java.nio.charset.StandardCharsets;
import java.nio.file.Files;
import java.nio.file.Path;
import java.util.ArrayList;
import java.util.LinkedHashMap;
import java.util.List;
import java.util.Map;

/**
 * The document, part by part ("Terms", "Promise 1" ..): each of its sentences is quoted by a test of its own, and none
 * is left out.
 */
final class Doc {
    private static final Map<String, String> PARTS = new LinkedHashMap<>();
    private static final Map<String, boolean[]> QUOTED = new LinkedHashMap<>();
    private static boolean isRead = false;

    private Doc() {
    }

    /** Runs the test of a sentence, or of some words of one; the words must stand in that part of the document. */
    static void says(String part, String words, Runnable test) {
        read();
        int before = Due.asked();
        Due.under(part + ": " + words);
        test.run();
        Due.yes("something is asked", Due.asked() > before);
        if (!PARTS.isEmpty()) {
            mark(part, words);
        }
        Due.under("");
    }

    private static void mark(String part, String words) {
        String text = PARTS.getOrDefault(part, "");
        int at = text.indexOf(words);
        Due.yes("these words stand in the document", at >= 0);
        for (; at >= 0; at = text.indexOf(words, at + 1)) {
            java.util.Arrays.fill(QUOTED.get(part), at, at + words.length(), true);
        }
    }

    /** Every word of every part has been quoted. */
    static void isQuotedWhole() {
        for (Map.Entry<String, String> part : PARTS.entrySet()) {
            StringBuilder left = new StringBuilder();
            boolean[] quoted = QUOTED.get(part.getKey());
            for (int i = 0; i < quoted.length; i++) {
                char c = part.getValue().charAt(i);
                boolean isWord = Character.isLetterOrDigit(c);
                if (!quoted[i] && (isWord || left.length() > 0 && left.charAt(left.length() - 1) != ' ')) {
                    left.append(isWord ? c : ' ');
                }
            }
            Due.same(part.getKey() + ": words that no test quotes", left.toString().trim(), "");
        }
    }

    static int parts() {
        read();
        return PARTS.size();
    }

    private static void read() {
        if (isRead) {
            return;
        }
        isRead = true;
        String told = System.getenv("SHADOW_HEIRS_DOC");
        Path file = Path.of(told == null ? "../shared/DOC.md" : told);
        if (!Files.isReadable(file)) {
            System.out.println("the document is not at " + file + ": its words are not compared");
            return;
        }
        try {
            split(Files.readAllLines(file, StandardCharsets.UTF_8));
        } catch (IOException e) {
            throw new IllegalStateException(e);
        }
    }

    private static void split(List<String> lines) {
        String part = "";
        List<String> rows = new ArrayList<>();
        for (String line : lines) {
            if (line.startsWith("## ")) {
                keep(part, rows);
                part = line.substring(3).replaceAll(":.*", "");
                rows.clear();
            } else if (!line.startsWith("```")) {
                rows.add(line.replaceAll("^==== \\d+\\. ?", "").replaceAll("^`[^`]*`: ", ""));
            }
        }
        keep(part, rows);
    }

    private static void keep(String part, List<String> rows) {
        if (part.equals("Terms") || part.startsWith("Promise ")) {
            String text = String.join(" ", rows).replaceAll("\\s+", " ").trim();
            PARTS.put(part, text);
            QUOTED.put(part, new boolean[text.length()]);
        }
    }
}
