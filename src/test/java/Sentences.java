import java.io.IOException;
import java.io.UncheckedIOException;
import java.nio.file.Files;
import java.nio.file.Path;
import java.util.LinkedHashMap;
import java.util.LinkedHashSet;
import java.util.List;
import java.util.Map;
import java.util.Set;

/**
 * The sentences of the document, each of which has a test of its own: a test quotes the beginning
 * of its sentence, and a sentence without a test is a fault.
 */
abstract class Sentences {
    static final Class<? extends RuntimeException> INDEX = IndexOutOfBoundsException.class;
    static final Class<? extends RuntimeException> ARGUMENT = IllegalArgumentException.class;
    static final Class<? extends RuntimeException> STATE = IllegalStateException.class;
    static final Class<? extends RuntimeException> NONE = java.util.NoSuchElementException.class;
    static final Class<? extends RuntimeException> REFUSED = UnsupportedOperationException.class;
    static final Class<? extends RuntimeException> DIVISION = ArithmeticException.class;

    /** Numbers that are no households in any village. */
    static final int[] NOWHERE = {
        Integer.MIN_VALUE, Integer.MIN_VALUE + 1, -32, -2, -1, 9, 10, 31, 32, 33, 64,
        Integer.MAX_VALUE - 1, Integer.MAX_VALUE,
    };

    private static final Map<String, Set<String>> LEFT = read(Path.of("../shared/DOC.md"));
    private static Set<String> told = Set.of();
    private static Set<String> left = Set.of();
    private static String part = "";

    /** The tests that follow are of a part of the document, told by the beginning of its title. */
    static void part(String title) {
        part = title;
        left = LEFT.getOrDefault(title, Set.of());
        told = new LinkedHashSet<>(left);
        Due.is(false, told::isEmpty);
    }

    /** A sentence of the part, told by its beginning, holds if the test finds nothing wrong. */
    static void holds(String beginning, Runnable test) {
        List<String> meant = told.stream().filter(each -> each.startsWith(beginning)).toList();
        Due.is(1, meant::size);
        left.removeAll(meant);
        int asked = Due.asked();
        int wrong = Due.wrong();
        test.run();
        if (Due.asked() == asked || Due.wrong() > wrong) {
            Due.is(beginning + " holds", () -> part + ": " + beginning + " does not hold");
        }
    }

    /** A sentence that sets no call an answer. */
    static void setsNothing(String beginning) {
        holds(beginning, () -> Due.is(true, () -> true));
    }

    /** A village of its own for each check, as an object is used for at most 512 calls. */
    interface Made {
        VillageFeud village();
    }

    interface Asked {
        Object answer(VillageFeud village);
    }

    /** The call is refused, and nothing but the reason is different then. */
    static void refused(Made made, int reason, int detail, Asked call) {
        VillageFeud x = made.village();
        String before = Villages.state(x);
        Due.refuses(x, reason, detail, () -> call.answer(x));
        Due.is(before, () -> Villages.state(x));
    }

    /** The call throws this, and nothing is different then. */
    static void thrown(Made made, Class<? extends RuntimeException> due, Asked call) {
        VillageFeud x = made.village();
        String before = Villages.state(x) + Villages.reasons(x);
        Due.fails(due, () -> call.answer(x));
        Due.is(before, () -> Villages.state(x) + Villages.reasons(x));
    }

    /** Every sentence of the parts of the document that promise something has had its test. */
    static void end() {
        for (Map.Entry<String, Set<String>> each : LEFT.entrySet()) {
            Due.is(each.getKey() + " []", () -> each.getKey() + " " + each.getValue());
        }
        Due.is(49, LEFT::size);
        Due.end();
    }

    private static Map<String, Set<String>> read(Path document) {
        Map<String, Set<String>> parts = new LinkedHashMap<>();
        try {
            for (String text : Files.readString(document).split("(?m)^#+ ")) {
                String title = text.lines().findFirst().orElse("").replaceAll(":.*", "");
                if (title.matches("What it is|Terms|Promise \\d+")) {
                    parts.put(title, sentencesOf(text.substring(text.indexOf('\n'))));
                }
            }
        } catch (IOException fault) {
            throw new UncheckedIOException(fault);
        }
        return parts;
    }

    private static Set<String> sentencesOf(String text) {
        Set<String> sentences = new LinkedHashSet<>();
        for (String paragraph : text.strip().split("\\n\\s*\\n|\\n(?=- `)")) {
            String plain = paragraph.strip().replaceAll("\\s+", " ").replaceFirst("^- ", "")
                    .replaceFirst("^`[^`]*\\)[^`]*`: ", "");
            for (String sentence : plain.split("(?<=\\.) (?=[A-Z])")) {
                if (!isHeading(sentence) && !isPlainName(sentence)) {
                    sentences.add(sentence);
                }
            }
        }
        return sentences;
    }

    private static boolean isHeading(String sentence) {
        return sentence.matches("[A-Z][a-z]+( two)?\\.");
    }

    /** What only names an argument sets no call an answer. */
    private static boolean isPlainName(String sentence) {
        return sentence.matches("`\\w+`: [a-z ]+");
    }
}
