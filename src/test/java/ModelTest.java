import java.lang.reflect.InvocationTargetException;
import java.lang.reflect.Method;
import java.util.ArrayList;
import java.util.Arrays;
import java.util.HashMap;
import java.util.List;
import java.util.Map;
import java.util.Random;

/** Random runs of calls, each answered by LadderSky and by PlainSky: promises 1 to 49 at once. */
public final class ModelTest {
    private static final int RUNS = 700;
    private static final int[] WILD = {-1, -2, -3, Integer.MIN_VALUE, Integer.MAX_VALUE, 6, 24, 100, 200, 201, 1000, -50, -51, 51};

    private final Random random;
    private final LadderSky x = new LadderSky();
    private final PlainSky y = new PlainSky();
    private final Map<String, Method> own = methods(LadderSky.class);
    private final Map<String, Method> plain = methods(PlainSky.class);
    private final List<String> told = new ArrayList<>();
    private final boolean bold;
    /** As many rungs and things as may be, and most entries. */
    private final boolean full;
    private int calls = 0;
    private int wrong = 0;

    private ModelTest(long seed) {
        random = new Random(seed);
        bold = random.nextInt(4) == 0;
        full = random.nextInt(20) == 0;
    }

    /** The calls of either class by their names. */
    static Map<String, Method> methods(Class<?> of) {
        Map<String, Method> all = new HashMap<>();
        for (Method m : of.getDeclaredMethods()) {
            if (of == PlainSky.class && java.lang.reflect.Modifier.isPrivate(m.getModifiers())) {
                continue;
            }
            if (of == LadderSky.class && !java.lang.reflect.Modifier.isPublic(m.getModifiers())) {
                continue;
            }
            all.put(m.getName(), m);
        }
        return all;
    }

    /** A boolean counts 1 or 0, as an answer and as an argument. */
    static long answer(Object of, Method m, int[] args) throws IllegalAccessException, InvocationTargetException {
        Object[] given = new Object[args.length];
        for (int i = 0; i < args.length; i++) {
            if (m.getParameterTypes()[i] == boolean.class) {
                given[i] = args[i] != 0;
            } else {
                given[i] = args[i];
            }
        }
        Object got = m.invoke(of, given);
        return got instanceof Boolean b ? (b ? 1 : 0) : ((Number) got).longValue();
    }

    private long call(String name, int... args) {
        calls++;
        String call = name + Arrays.toString(args);
        told.add(call);
        try {
            long want = answer(y, plain.get(name), args);
            long got = answer(x, own.get(name), args);
            if (got != want) {
                wrong++;
                System.out.println(call + " answered " + got + ", due is " + want + " after " + told);
            }
            return want;
        } catch (IllegalAccessException | InvocationTargetException e) {
            wrong++;
            System.out.println(call + " threw " + e.getCause() + " after " + told);
            return 0;
        }
    }

    private int below(int n) {
        return random.nextInt(n);
    }

    /** Mostly from low to high, now and then wild. */
    private int some(int low, int high) {
        if (below(bold ? 12 : 40) == 0) {
            return WILD[below(WILD.length)];
        }
        return low + below(high - low + 1);
    }

    private int upTo(int have) {
        return some(0, Math.max(0, have - 1));
    }

    // ---- texts

    private String blank() {
        int i = below(30);
        return i == 0 ? "\n" : i == 1 ? "  " : " ";
    }

    private int number(int low, int high) {
        if (bold && below(60) == 0) {
            return new int[] {0, high + 1, 9999, 10000, low, high}[below(6)];
        }
        return low + below(high - low + 1);
    }

    private int speedy() {
        int i = below(6);
        return i == 0 ? number(0, 9999) : i == 1 ? number(0, 20) : number(0, 600);
    }

    private int rawish() {
        int i = below(8);
        return i == 0 ? number(1, 9999) : number(1, i < 4 ? 12 : 150);
    }

    private int yearish() {
        return below(3) == 0 ? number(0, 99) : below(2) == 0 ? 0 : number(0, 9);
    }

    private String catalogue() {
        StringBuilder s = new StringBuilder();
        int rungs = full ? 6 : 1 + below(5);
        int things = full ? 24 : 1 + below(below(3) == 0 ? 14 : 8);
        for (int r = 0; r < rungs; r++) {
            int kind = r == 0 ? 0 : below(4);
            int scale = below(3) == 0 ? number(1, 9999) : 1000;
            s.append(kind == 0 ? "base " + scale : "on " + number(0, Math.max(0, r - 1))).append(';');
        }
        for (int t = 0; t < things; t++) {
            s.append(below(6) == 0 ? "toward" : "away").append(blank()).append(speedy()).append(';');
        }
        for (int i = below(4); i > 0; i--) {
            s.append("stone ").append(number(1, 9999)).append(';');
        }
        while (s.length() < 470 && below(45) != 0) {
            s.append("has").append(blank()).append(number(0, things - 1)).append(' ').append(number(0, rungs - 1))
                .append(' ').append(rawish()).append(blank()).append(yearish()).append(';');
        }
        return spoiled(s.toString());
    }

    private String house() {
        StringBuilder s = new StringBuilder();
        for (int i = 1 + below(5); i > 0; i--) {
            s.append("use ").append(number(0, below(4) == 0 ? 5 : 2)).append(';');
        }
        if (below(2) == 0) {
            s.append("way ").append(List.of("first", "mean", "last").get(below(3))).append(';');
        }
        for (int i = below(3); i > 0; i--) {
            s.append("lean ").append(number(0, 5)).append(below(2) == 0 ? " up " : " down ").append(number(0, 50)).append(';');
        }
        for (int i = below(3); i > 0 && below(3) == 0; i--) {
            s.append("cast ").append(number(0, 9)).append(';');
        }
        for (int i = below(4) == 0 ? 1 + below(bold ? 9 : 4) : 0; i > 0; i--) {
            int kind = below(5);
            s.append("throw ").append(List.of("slower", "faster", "nearer", "farther", "odd").get(kind)).append(blank());
            s.append(kind == 4 ? number(1, below(3) == 0 ? 9 : 2) : kind == 0 || kind == 2 ? number(0, 60)
                : number(20, 3000)).append(';');
        }
        return spoiled(s.toString());
    }

    private String sky() {
        StringBuilder s = new StringBuilder();
        for (int i = bold ? below(8) : 1 + below(6); i > 0; i--) {
            s.append("light ").append(number(1, 999)).append(' ').append(number(1, 9)).append(';');
        }
        if (below(4) != 0) {
            s.append("speed ").append(number(0, 1000)).append(';');
        }
        if (below(2) == 0) {
            s.append("own ").append(number(0, below(2) == 0 ? 999 : 60)).append(';');
        }
        if (below(2) == 0) {
            s.append("err ").append(number(0, 50)).append(';');
        }
        if (below(3) != 0) {
            s.append("limit ").append(below(3) == 0 ? number(1, 9999) : number(1, 400)).append(';');
        }
        if (below(2) == 0) {
            s.append("tries ").append(number(1, 24)).append(';');
        }
        return spoiled(s.toString());
    }

    /** Now and then a byte is put in, taken out or changed. */
    private String spoiled(String text) {
        if (below(bold ? 3 : 15) != 0 || text.isEmpty()) {
            return text;
        }
        String signs = "; 09abtsz:\n\u0000\u00e9-A";
        String sign = "" + signs.charAt(below(signs.length()));
        int at = below(text.length());
        return switch (below(3)) {
            case 0 -> text.substring(0, at) + sign + text.substring(at);
            case 1 -> text.substring(0, at) + text.substring(at + 1);
            default -> text.substring(0, at) + sign + text.substring(at + 1);
        };
    }

    private void tell(int sort, int at) {
        String text = sort == 0 ? catalogue() : sort == 1 ? house() : sky();
        byte[] bytes = text.getBytes(java.nio.charset.StandardCharsets.ISO_8859_1);
        int fed = 0;
        while (fed < bytes.length && fed < 500) {
            int[] n = Due.numbers(Arrays.copyOfRange(bytes, fed, fed + 20));
            fed += 20;
            call("feed", n[0], n[1], n[2], n[3], n[4]);
        }
        if (bold && below(25) == 0) {
            call("feed", 0, 0, 0, 0, 0);
        }
        call("end", Math.min(bytes.length, 500));
        call("text", sort, at);
        call("fault", 0);
        call("fault", 1);
    }

    // ---- calls

    private int cats() {
        return y.count(0);
    }

    private int anyCat() {
        return upTo(cats());
    }

    private int anyHouse() {
        return upTo(y.count(1));
    }

    private int year() {
        int i = below(6);
        return i < 2 ? some(0, 9) : i < 4 ? 99 : some(0, 99);
    }

    private int rung(int c) {
        return upTo(Math.max(1, y.about(c, 0)) + (below(12) == 0 ? 1 : 0));
    }

    private int thing(int c) {
        return upTo(Math.max(1, y.about(c, 1)) + (below(12) == 0 ? 1 : 0));
    }

    private void change() {
        int c = anyCat();
        switch (below(12)) {
            case 0, 1, 2 -> call("has", c, thing(c), rung(c), some(1, below(4) == 0 ? 9999 : 200), some(0, 99));
            case 3, 4 -> call("lean", anyHouse(), some(0, 5), some(-50, 50));
            case 5, 6 -> call("cast", anyHouse(), some(0, below(3) == 0 ? 23 : 6), below(2));
            case 7 -> tell(below(3), below(3) == 0 ? some(0, 2) : -1);
            case 8 -> call("make", upTo(y.count(2)), below(2) == 0 ? -1 : upTo(cats()), random.nextInt());
            case 9, 10 -> call("say", anyHouse(), some(0, 99), some(-3000, 20000), some(-1000, 60000));
            default -> {
                if (below(2) == 0) {
                    call("image", some(0, 2));
                } else {
                    call("again", some(0, 2));
                }
            }
        }
    }

    private void ask() {
        int c = anyCat();
        int h = anyHouse();
        int g = anyHouse();
        int yr = year();
        switch (below(44)) {
            case 0 -> call("about", c, below(3) == 0 ? some(0, 5) : some(8, 26));
            case 1 -> call("speed", c, thing(c));
            case 2 -> call("entry", c, thing(c), rung(c), below(2));
            case 3 -> call("of", h, below(2) == 0 ? some(0, 4) : some(9, 16));
            case 4, 5 -> call("scale", c, h, yr, rung(c));
            case 6, 7 -> call("far", c, h, yr, thing(c), below(2) == 0 ? -1 : rung(c));
            case 8, 9, 10 -> call("line", c, h, yr, some(0, 3));
            case 11 -> call("left", c, h, yr, thing(c));
            case 12 -> call("spread", c, h, yr);
            case 13 -> call("without", c, h, yr, thing(c));
            case 14 -> call("span", c, h, yr, below(2));
            case 15, 16 -> call("odd", c, h, yr, below(2));
            case 17 -> call("age", c, h, yr);
            case 18 -> call("barred", c, h, yr);
            case 19 -> call("up", c, h, yr, rung(c));
            case 20 -> call("worst", c, h, yr);
            case 21 -> call("part", c, h, g, yr);
            case 22 -> call("agree", c, h, g, yr);
            case 23 -> call("since", c, h);
            case 24 -> call("stands", c, h, some(0, 100));
            case 25, 26 -> call("sorts", c, h, yr, rung(c), below(3) == 0 ? some(9, 20) : some(0, 4));
            case 27 -> call("sky", upTo(y.count(2)), some(0, 26));
            case 28 -> call("seen", upTo(y.count(2)), below(2) == 0 ? some(1, 40) : some(0, 201));
            case 29 -> call("chosen", upTo(y.count(2)), below(2) == 0 ? some(1, 40) : some(0, 201), below(2), below(2));
            case 30 -> call("worlds", upTo(y.count(2)), h, random.nextInt(), some(1, 20), some(0, 2));
            case 31, 32 -> call("chance", c, h, yr);
            case 33 -> call("alike", c, h, yr, rung(c));
            case 34 -> call("heaps", c, h, yr, rung(c), below(2) == 0 ? some(80, 120) : some(1, 999));
            case 35 -> call("middle", c, h, yr);
            case 36 -> call("across", c, h, g, yr);
            case 37 -> call("path", c, h, g, yr, rung(c));
            case 38 -> call("strait", c, h, yr);
            case 39 -> call("changes", c, h);
            case 40, 41 -> call("next", c, h, yr);
            case 42 -> call("kept", c, below(2) == 0 ? some(0, 2) : below(2) == 0 ? some(10, 13) : some(30, 33));
            default -> call("beside", c, h, yr, some(-100, 10000), some(0, 20000));
        }
        if (below(40) == 0) {
            call("count", some(0, 4));
        }
    }

    private int play() {
        tell(0, -1);
        tell(1, -1);
        tell(1, -1);
        tell(2, -1);
        for (int i = 0; full && i < 100; i++) {
            call("has", 0, below(24), below(6), rawish(), yearish());
        }
        if (below(2) == 0) {
            call("make", 0, -1, random.nextInt());
        }
        // a text may take some thirty calls more, and an object is good for 512
        while (calls < (full ? 480 : 380)) {
            if (below(6) == 0) {
                change();
            } else {
                ask();
            }
        }
        return wrong;
    }

    public static void main(String[] args) {
        String seeds = System.getenv("SEEDS");
        int runs = seeds == null ? RUNS : Integer.parseInt(seeds);
        long from = args.length > 0 ? Long.parseLong(args[0]) : 1;
        int failed = 0;
        for (long seed = from; seed < from + runs && failed < 5; seed++) {
            if (new ModelTest(seed).play() != 0) {
                failed++;
                System.out.println("seed " + seed);
            }
        }
        Due.due("runs that differ from the model", failed, 0);
        Due.close("ModelTest");
    }
}
