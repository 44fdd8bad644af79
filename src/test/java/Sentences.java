import java.io.IOException;
import java.nio.charset.StandardCharsets;
import java.nio.file.Files;
import java.nio.file.Path;
import java.util.ArrayList;
import java.util.LinkedHashMap;
import java.util.List;
import java.util.Map;

/**
 * Tests whose names are a place and a sentence (or a part of one) of the document. What is quoted has to stand there,
 * word for word, and a sentence that none of them quotes is a fault, too.
 */
abstract class Sentences {
    static final Class<IllegalArgumentException> ARGUMENT = IllegalArgumentException.class;
    static final Class<IllegalStateException> STATE = IllegalStateException.class;
    static final Class<IndexOutOfBoundsException> INDEX = IndexOutOfBoundsException.class;
    static final int NONE = KaleidoscopeBox.NONE;
    static final int NOWHERE = KaleidoscopeBox.NOWHERE;
    static final int LEAST = Integer.MIN_VALUE;
    static final int MOST = Integer.MAX_VALUE;
    static final int[] ANGLES = {180, 90, 45, 60, 30};

    private static final Path DOCUMENT = Path.of("../shared/DOC.md");
    private static final Due DUE = new Due();
    private static final Map<String, List<String>> QUOTES = new LinkedHashMap<>();

    private String place = "";
    private String name = "";
    private int answers;

    abstract void tests();

    /** The heading in the document for the tests that follow: "CELLS", or the number of a promise. */
    void at(String heading) {
        place = heading;
        QUOTES.computeIfAbsent(place, p -> new ArrayList<>());
    }

    void test(String sentence, Runnable body) {
        QUOTES.get(place).add(sentence);
        name = place + " \"" + sentence + "\"";
        answers = 0;
        try {
            body.run();
            DUE.is(name + " has answers", 1, answers > 0 ? 1 : 0);
        } catch (RuntimeException e) {
            DUE.is(name + " threw " + e + " behind answer " + answers, 0, 1);
        }
    }

    private String nextAnswer() {
        answers++;
        return name + ": answer " + answers;
    }

    void is(long want, long got) {
        DUE.is(nextAnswer(), want, got);
    }

    void isDouble(double want, double got) {
        DUE.isDouble(nextAnswer(), want, got);
    }

    void isText(String want, String got) {
        String label = nextAnswer();
        DUE.is(want.equals(got) ? label : label + " is\n" + got + "and not\n" + want, 1, want.equals(got) ? 1 : 0);
    }

    void fails(Class<? extends RuntimeException> want, Runnable call) {
        DUE.refuses(nextAnswer(), want, () -> {
            call.run();
            return 0;
        });
    }

    static KaleidoscopeBox box(String setup) {
        return Due.of(setup);
    }

    /** A box with an ANGLE and a RADIUS, and nothing else told. */
    static KaleidoscopeBox box(int angle, int radius) {
        return Due.of("angle " + angle + " radius " + radius + ";");
    }

    static void end(String tests) {
        if (Files.exists(DOCUMENT)) {
            compareWithDocument();
        } else {
            System.out.println(tests + ": there is no " + DOCUMENT + " to hold the sentences against");
        }
        DUE.end(tests);
    }

    private static void compareWithDocument() {
        Map<String, List<String>> document = readDocument();
        QUOTES.forEach((heading, quotes) -> {
            String text = String.join(" ", document.getOrDefault(heading, List.of()));
            for (String quote : quotes) {
                DUE.is(heading + " says \"" + quote + "\"", 1, text.contains(quote) ? 1 : 0);
            }
        });
        document.forEach((heading, sentences) -> {
            String all = String.join(" ", sentences);
            int start = 0;
            for (String sentence : sentences) {
                int from = start;
                boolean isQuoted = QUOTES.getOrDefault(heading, List.of()).stream()
                    .anyMatch(quote -> meets(all, quote, from, from + sentence.length()));
                DUE.is(heading + ": a test of \"" + sentence + "\"", 1, isQuoted ? 1 : 0);
                start += sentence.length() + 1;
            }
        });
    }

    private static boolean meets(String all, String quote, int from, int to) {
        for (int at = all.indexOf(quote); at >= 0; at = all.indexOf(quote, at + 1)) {
            if (at < to && at + quote.length() > from) {
                return true;
            }
        }
        return false;
    }

    /** The sentences under each heading of the terms and promises, with single spaces and without the signatures. */
    private static Map<String, List<String>> readDocument() {
        Map<String, List<String>> document = new LinkedHashMap<>();
        String heading = "";
        for (String whole : documentLines()) {
            String line = whole.replaceFirst("^`[^`]*\\)[^`]*`: ", "");
            if (line.startsWith("## Promise ")) {
                heading = line.substring(3, line.indexOf(':'));
            } else if (line.startsWith("## ")) {
                heading = line.equals("## What it is") ? line.substring(3) : "";
            } else if (line.matches("[A-Z ]+")) {
                heading = line;
            } else if (!heading.isEmpty() && says(line)) {
                String text = line.replaceFirst("^- `[a-zA-Z]*`: ", "");
                document.computeIfAbsent(heading, h -> new ArrayList<>())
                    .addAll(List.of(text.strip().replaceAll(" +", " ").split("(?<=\\.) (?=[A-Z\"])")));
            }
        }
        return document;
    }

    /** Names of parameters alone tell nothing that has a boundary; what throws for them is told below them. */
    private static boolean says(String line) {
        boolean isParameter = line.startsWith("- `") && !line.matches(".*: .*[0-9].*");
        return !line.isBlank() && !line.startsWith("```") && !line.startsWith("Ahead of the calls") && !isParameter
            && !line.startsWith("A kaleidoscope: ");
    }

    private static List<String> documentLines() {
        try {
            return Files.readAllLines(DOCUMENT, StandardCharsets.US_ASCII);
        } catch (IOException e) {
            throw new IllegalStateException(e);
        }
    }
}
