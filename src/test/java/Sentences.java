import java.io.IOException;
import java.nio.charset.StandardCharsets;
import java.nio.file.Files;
import java.nio.file.Path;
import java.util.LinkedHashMap;
import java.util.Map;

/**
 * The document's sentences, as the tests of boundary cases name them: each test says which part of the document it is for
 * in the document's own words, which must stand there, and at the end no word of a promise may be left without a test.
 */
final class Sentences {
    private static final Path DOCUMENT = Path.of("../shared/DOC.md");

    private static final Map<String, String> PARTS = read();
    private static final Map<String, boolean[]> TESTED = new LinkedHashMap<>();
    private static String now = "";

    private Sentences() {
    }

    /** What follows tests these words of a part: "Terms", or a promise by its number. */
    static void says(int promise, String words) {
        says("Promise " + promise, words);
    }

    static void says(String part, String words) {
        now = part + ", \"" + words + "\": ";
        if (PARTS.isEmpty()) {
            return;
        }
        String text = PARTS.getOrDefault(part, "");
        int at = text.indexOf(words);
        Check.due(now + "stands in the document", at >= 0, true);
        boolean[] tested = TESTED.computeIfAbsent(part, name -> new boolean[text.length()]);
        while (at >= 0) {
            java.util.Arrays.fill(tested, at, at + words.length(), true);
            at = text.indexOf(words, at + 1);
        }
    }

    static void due(String call, long got, long want) {
        Check.due(now + call, got, want);
    }

    static void due(String call, boolean got, boolean want) {
        Check.due(now + call, got, want);
    }

    static void due(String call, int[] got, int... want) {
        Check.due(now + call + ", how many", got.length, want.length);
        for (int k = 0; k < Math.min(got.length, want.length); k++) {
            Check.due(now + call + ", number " + k, got[k], want[k]);
        }
    }

    /** No letter or digit of a part may be without a test. */
    static void allAreTested() {
        for (Map.Entry<String, String> part : PARTS.entrySet()) {
            boolean[] tested = TESTED.getOrDefault(part.getKey(), new boolean[part.getValue().length()]);
            StringBuilder left = new StringBuilder();
            boolean isLeft = false;
            for (int k = 0; k < tested.length; k++) {
                left.append(tested[k] ? '|' : part.getValue().charAt(k));
                isLeft |= !tested[k] && Character.isLetterOrDigit(part.getValue().charAt(k));
            }
            Check.due(part.getKey() + " has words without a test: " + left.toString().replaceAll("\\|+", "|"), isLeft, false);
        }
    }

    // Where the document is not at hand the tests hold all the same; its words can't be looked for then.
    private static Map<String, String> read() {
        Map<String, String> parts = new LinkedHashMap<>();
        String whole;
        try {
            whole = Files.readString(DOCUMENT, StandardCharsets.UTF_8);
        } catch (IOException e) {
            System.out.println("no " + DOCUMENT + ": its words are not looked for");
            return parts;
        }
        for (String section : whole.split("(?m)^## ")) {
            String head = section.split("[:\n]", 2)[0].trim();
            String text = section.substring(section.indexOf('\n') + 1).replaceAll("```(text)?|==== \\d\\.", " ").replaceAll("\\s+", " ").trim();
            if (head.startsWith("Promise ")) {
                parts.put(head, text.replaceFirst("^`[^`]*`: ", ""));
            } else if (head.equals("Terms")) {
                parts.put(head, text);
            } else if (head.equals("What it is")) {
                parts.put(head, text.substring(Math.max(0, text.indexOf("An object is used"))));
            }
        }
        return parts;
    }
}
