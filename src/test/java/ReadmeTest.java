import java.io.IOException;
import java.lang.reflect.Method;
import java.lang.reflect.Modifier;
import java.nio.file.Files;
import java.nio.file.Path;
import java.util.ArrayList;
import java.util.List;
import java.util.Map;
import java.util.TreeMap;
import java.util.TreeSet;
import java.util.regex.Matcher;
import java.util.regex.Pattern;

/** README.md says how to use the class: its program, texts, faults and calls are held against the class itself. */
public final class ReadmeTest {
    private static final String CALL = "(?:(?:int|long) (\\w+) = )?x\\.(\\w+)\\(([^)]*)\\);.*";

    private ReadmeTest() {
    }

    /** Of the first program on the page each call, with what the page says it answers. */
    private static void theProgram(String page) throws ReflectiveOperationException {
        String program = page.substring(page.indexOf("```java\n") + 8);
        Map<String, Method> calls = ModelTest.methods(LadderSky.class);
        Map<String, Long> named = new TreeMap<>(Map.of("LadderSky.NONE", (long) LadderSky.NONE));
        LadderSky x = new LadderSky();
        List<Long> answers = new ArrayList<>();
        for (String line : program.substring(0, program.indexOf("```")).split("\n")) {
            Matcher m = Pattern.compile(CALL).matcher(line);
            if (!m.matches()) {
                Due.due("the program's line " + line, line.equals("LadderSky x = new LadderSky();"), true);
                continue;
            }
            String[] words = m.group(3).split(", ");
            int[] numbers = new int[words.length];
            for (int i = 0; i < words.length; i++) {
                numbers[i] = named.containsKey(words[i]) ? named.get(words[i]).intValue() : Long.decode(words[i]).intValue();
            }
            long got = ModelTest.answer(x, calls.get(m.group(2)), numbers);
            if (m.group(1) != null) {
                named.put(m.group(1), got);
                answers.add(got);
                Due.due(line, got, Long.parseLong(line.replaceAll(".*\\D", "")));
            }
        }
        Due.due("answers that the page tells", answers.size(), 3);
        Due.due("the last of them", answers.get(2), 5000);
    }

    private static void theTexts(String page) {
        Matcher m = Pattern.compile("\\| ([0-2]) \\| a (\\w+) \\| (\\d) \\| `([^`]*)` \\|").matcher(page);
        TreeSet<String> sorts = new TreeSet<>();
        LadderSky x = new LadderSky();
        while (m.find()) {
            int sort = Integer.parseInt(m.group(1));
            sorts.add(sort + " " + m.group(2));
            int most = Integer.parseInt(m.group(3));
            for (int i = 0; i < most; i++) {
                Due.due(m.group(), Due.tell(x, sort, LadderSky.NONE, m.group(4)), i);
                Due.due("its fault", x.fault(0), 0);
            }
            Due.due("one more", Due.tell(x, sort, LadderSky.NONE, m.group(4)), -2);
            Due.due("the tape is empty then", x.feed(0, 0, 0, 0, 0), 20);
            x.end(0);
        }
        Due.due("sorts of texts", sorts.toString().equals("[0 catalogue, 1 house, 2 sky]"), true);
    }

    private static void theFaults(String page) {
        String[] broken = {"base 1000;away 10", "base 0;", "stone 1;stone 1;stone 1;stone 1;stone 1;", "speed 70;"};
        int[] places = {17, 5, 32, 9};
        String[] what = {"with which no text goes on", "can't be", "too many", "without lights"};
        for (int fault = 1; fault <= 4; fault++) {
            Due.due("fault " + fault, Pattern.compile("\\| " + fault + " \\| [^\n]*" + what[fault - 1]).matcher(page).find(), true);
            LadderSky x = new LadderSky();
            Due.due(broken[fault - 1], Due.tell(x, fault == 4 ? 2 : 0, LadderSky.NONE, broken[fault - 1]), LadderSky.NONE);
            Due.due("its fault", x.fault(0), fault);
            Due.due("its place", x.fault(1), places[fault - 1]);
        }
    }

    /** Each promised call stands in the table once. */
    private static void theCalls(String page) {
        String table = page.substring(page.indexOf("### Calls"), page.indexOf("Years are 0 .. 99."));
        int calls = 0;
        for (Method m : LadderSky.class.getDeclaredMethods()) {
            if (Modifier.isPublic(m.getModifiers())) {
                calls++;
                Due.due("`" + m.getName() + "` in README.md", table.split("`" + m.getName() + "`", -1).length - 1, 1);
            }
        }
        Due.due("calls", calls, 48);
        Due.due("names in the table", Pattern.compile("`\\w+`").matcher(table).results().count(), 48);
    }

    /** What the page says of numbers that stand for none. */
    private static void theNones(String page) {
        LadderSky x = new LadderSky();
        Due.due("text", x.text(0, 0), -2);
        Due.due("count", x.count(4), -2);
        Due.due("of", x.of(0, 0), -100);
        Due.due("speed", x.speed(0, 0), -10000);
        Due.due("left", x.left(0, 0, 0, 0), -1000000);
        Due.due("line", x.line(0, 0, 0, 1), -2000000000L);
        Due.due("without", x.without(0, 0, 0, 0), -2000000000L);
        Due.due("span", x.span(0, 0, 0, true), -2000000000L);
        Due.due("up", x.up(0, 0, 0, 0), -2000000000L);
        Due.due("middle", x.middle(0, 0, 0), -2000000000L);
        Due.due("path", x.path(0, 0, 0, 0, 0), -2000000000L);
        Due.due("beside", x.beside(0, 0, 0, 0, 1), -2000000000L);
        String said = "-2 (`text`, `count`), -100 (`of`), -10000 (`speed`), -1000000 (`left`), "
            + "-2000000000 (`line`, `without`, `span`, `up`, `middle`, `path`, `beside`)";
        Due.due("the page says so", page.replaceAll("\\s+", " ").contains(said), true);
    }

    /** Each test stands on the page, and none that is not there. */
    private static void theTests(String page) throws IOException {
        String list = page.substring(page.indexOf("## Tests"));
        TreeSet<String> there = new TreeSet<>();
        try (var files = Files.list(Path.of("src/test/java"))) {
            files.map(f -> f.getFileName().toString()).filter(f -> f.endsWith("Test.java")).forEach(f -> there.add(f.replace(".java", "")));
        }
        TreeSet<String> told = new TreeSet<>();
        Pattern.compile("`(\\w+Test)`").matcher(list).results().forEach(m -> told.add(m.group(1)));
        Due.due("tests on the page " + told + ", tests there " + there, told.equals(there), true);
        Due.due(".ci/run stands on the page", list.contains("`.ci/run` compiles"), true);
    }

    public static void main(String[] args) throws IOException, ReflectiveOperationException {
        String page = Files.readString(Path.of("README.md"));
        theProgram(page);
        theTexts(page);
        theFaults(page);
        theCalls(page);
        theNones(page);
        theTests(page);
        Due.close("ReadmeTest");
    }
}
