import java.io.IOException;
import java.nio.charset.StandardCharsets;
import java.nio.file.Files;
import java.nio.file.Path;
import java.util.Arrays;
import java.util.LinkedHashMap;
import java.util.Map;

/** Boundary sentences of the document, each with the test that stands for it. */
final class Edge {
    /** A call with its numbers in a row, a boolean being 1 or 0. */
    interface Call {
        long on(int[] numbers);
    }

    static final long NO = -2000000000L;
    private static final Path DOCUMENT = Path.of("..", "shared", "DOC.md");
    private static final Map<String, String> SECTIONS = sections();
    private static final Map<String, boolean[]> QUOTED = new LinkedHashMap<>();
    private static int sentences = 0;

    private Edge() {
    }

    /** The test stands for this sentence, which must be the document's own, in that section of it. */
    static void of(String where, String sentence, Runnable test) {
        sentences++;
        quote(where, sentence);
        long before = Due.asked();
        long wrong = Due.wrong();
        test.run();
        Due.due("answers asked for \"" + sentence + "\"", Due.asked() > before, true);
        if (Due.wrong() > wrong) {
            System.out.println("  broken, " + where + ": " + sentence);
        }
    }

    /** A sentence that names no boundary case: the tests of the promises hold it. */
    static void plain(String where, String sentence) {
        quote(where, sentence);
    }

    /** Of a sound call each number in turn is put out of its range, while the others stay. */
    static void refuses(String name, Call call, long none, int[] sound, int[]... wrong) {
        Due.due(name + Arrays.toString(sound) + " is sound", call.on(sound) != none, true);
        Due.due("rows of wrong numbers for " + name, wrong.length <= sound.length, true);
        for (int i = 0; i < wrong.length; i++) {
            for (int number : wrong[i]) {
                int[] numbers = sound.clone();
                numbers[i] = number;
                Due.due(name + Arrays.toString(numbers), call.on(numbers), none);
            }
        }
    }

    /** Numbers out of 0 .. n - 1. */
    static int[] but(int n) {
        return new int[] {-1, n, -2, n + 1, -n, 32, 64, 256, 65536, Integer.MIN_VALUE, Integer.MIN_VALUE + 1, Integer.MAX_VALUE};
    }

    static int[] butYears() {
        return new int[] {-1, 100, 101, 356, -100, Integer.MIN_VALUE, Integer.MAX_VALUE};
    }

    static LadderSky sky(String text) {
        LadderSky x = new LadderSky();
        Due.due("sky " + text, Due.tell(x, 2, -1, text), 0);
        return x;
    }

    static void sound(int sort, String text) {
        LadderSky x = new LadderSky();
        Due.due("text " + text, Due.tell(x, sort, -1, text), 0);
        Due.due("fault of " + text, x.fault(0), 0);
        Due.due("place of " + text, x.fault(1), -1);
    }

    static void faulty(int sort, String text, int fault, int place) {
        LadderSky x = new LadderSky();
        Due.due("text " + text, Due.tell(x, sort, -1, text), -1);
        Due.due("fault of " + text, x.fault(0), fault);
        Due.due("place of " + text, x.fault(1), place);
        Due.due("count of " + text, x.count(sort), 0);
    }

    /** Every sentence of every section must have been quoted, so that none was passed over in reading. */
    static void closeDocument() {
        for (Map.Entry<String, String> section : SECTIONS.entrySet()) {
            String text = section.getValue();
            boolean[] quoted = QUOTED.getOrDefault(section.getKey(), new boolean[text.length()]);
            StringBuilder rest = new StringBuilder();
            for (int i = 0; i < text.length(); i++) {
                rest.append(quoted[i] ? ' ' : text.charAt(i));
            }
            String left = squeezed(rest.toString().replaceAll("[ .;,:()]+", " "));
            Due.due("words not quoted of " + section.getKey() + ": " + left, left.length(), 0);
        }
        System.out.println("boundary sentences with a test of their own: " + sentences);
    }

    private static void quote(String where, String sentence) {
        String text = SECTIONS.get(where);
        if (SECTIONS.isEmpty()) {
            return;
        }
        int at = text == null ? -1 : text.indexOf(squeezed(sentence));
        Due.due("in the document, " + where + ": " + sentence, at >= 0, true);
        if (at >= 0) {
            boolean[] quoted = QUOTED.computeIfAbsent(where, w -> new boolean[text.length()]);
            Arrays.fill(quoted, at, at + squeezed(sentence).length(), true);
        }
    }

    private static String squeezed(String text) {
        return text.replaceAll("\\s+", " ").trim();
    }

    /** The document's terms 1 to 4 and its promises, each as one row; none if the document is not here. */
    private static Map<String, String> sections() {
        Map<String, String> all = new LinkedHashMap<>();
        if (!Files.isReadable(DOCUMENT)) {
            System.out.println("no " + DOCUMENT + " here: quotations are not looked up");
            return all;
        }
        try {
            String where = "";
            for (String line : Files.readString(DOCUMENT, StandardCharsets.UTF_8).split("\n")) {
                if (line.startsWith("## ")) {
                    where = line.startsWith("## Promise ") || line.equals("## What it is") ? line.substring(3).replaceAll(":.*", "") : "";
                } else if (line.matches("[1-4]\\. .*")) {
                    where = "Terms " + line.charAt(0);
                    all.put(where, line.substring(3));
                } else if (line.startsWith("The constants:")) {
                    where = "Constants";
                    all.put(where, line);
                } else if (!where.isEmpty() && !line.startsWith("```")) {
                    all.merge(where, line, (a, b) -> a + " " + b);
                }
            }
            all.replaceAll((name, text) -> squeezed(text).replaceAll("^`[^`]*`: ", ""));
        } catch (IOException e) {
            throw new IllegalStateException(e);
        }
        return all;
    }
}
