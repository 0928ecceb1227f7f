import java.lang.reflect.InvocationTargetException;
import java.lang.reflect.Method;
import java.nio.charset.StandardCharsets;
import java.util.Arrays;
import java.util.Map;
import java.util.TreeMap;

/**
 * No call may ever throw, for any arguments in any state: every call with every mix of wild numbers, in a new object, a small one
 * and a full one, answered as PlainSky answers it.
 */
public final class WildTest {
    private static final int LEAST = Integer.MIN_VALUE;
    private static final int MOST = Integer.MAX_VALUE;
    private static final int[][] WILD = {
        {},
        {LEAST, LEAST + 1, -51, -3, -2, -1, 0, 1, 2, 3, 4, 5, 6, 10, 15, 16, 19, 20, 23, 24, 25, 26, 30, 45, 46, 60, 61, 99, 100, 101, 200, 201, 500, 501, MOST - 1, MOST},
        {LEAST, -2, -1, 0, 1, 2, 3, 5, 6, 9, 10, 12, 15, 16, 20, 23, 24, 25, 26, 30, 31, 45, 46, 60, 61, 200, 201, MOST},
        {LEAST, -2, -1, 0, 1, 2, 5, 6, 24, 50, 51, 99, 100, 101, MOST},
        {LEAST, -1, 0, 1, 2, 5, 6, 24, 99, 100, MOST},
        {LEAST, -1, 0, 1, 2, 10, 99, MOST}};
    /** What an object is good for, by the document. */
    private static final int MOST_CALLS = 512;

    private final Map<String, Method> own = new TreeMap<>(ModelTest.methods(LadderSky.class));
    private final Map<String, Method> plain = ModelTest.methods(PlainSky.class);
    private final int state;
    private LadderSky x;
    private PlainSky y;
    private int calls;
    private int asked = 0;
    private int wrong = 0;

    private WildTest(int state) {
        this.state = state;
        begin();
    }

    private void begin() {
        x = new LadderSky();
        y = new PlainSky();
        calls = 0;
        if (state == 1) {
            tell(0, "base 1000;on 0;away 10;away 30;toward 5;stone 9;has 0 0 1 0;has 1 0 2 0;has 1 1 4 0;has 0 1 3 1;");
            tell(1, "use 0;use 1;");
            tell(1, "use 1;lean 1 up 50;way last;throw odd 1;");
            tell(2, "light 100 1;light 1 3;limit 100;speed 100;own 9;err 9;tries 3;");
            call("say", 0, 0, 1, 20000);
            call("image", 1);
        } else if (state == 2) {
            beginFull();
        }
    }

    private void beginFull() {
        String things = "away 10;toward 20;away 300;".repeat(8);
        for (int i = 0; i < 3; i++) {
            tell(0, "base 1000;on 0;on 1;base 9999;on 3;on 0;" + things + "stone 1;stone 99;stone 999;stone 9999;has 0 0 9 0;has 0 1 8 0;has 0 2 7 0;has 0 5 9 0;has 23 5 9999 99;");
            tell(2, "light 100 1;light 1 3;light 9 9;light 999 9;light 1 1;light 5 5;limit 100;speed 1000;own 999;err 50;");
        }
        for (int i = 0; i < 6; i++) {
            tell(1, "use 0;use 5;use " + i + ";lean " + i + " up 50;lean 5 down 50;cast 22;throw slower 1;throw faster 9998;throw nearer 1;throw odd 1;" + "throw farther 9999;".repeat(4));
        }
        for (int i = 0; i < 16; i++) {
            call("say", i % 6, 99 - i, -999999, 999999);
        }
        for (int k = 0; k < 3; k++) {
            call("image", k);
        }
    }

    private void tell(int sort, String text) {
        byte[] bytes = text.getBytes(StandardCharsets.ISO_8859_1);
        for (int at = 0; at < bytes.length; at += 20) {
            int[] n = Due.numbers(Arrays.copyOfRange(bytes, at, at + 20));
            call("feed", n[0], n[1], n[2], n[3], n[4]);
        }
        call("end", bytes.length);
        if (call("text", sort, -1) < 0) {
            wrong++;
            System.out.println("not told: " + text);
        }
    }

    private long call(String name, int... args) {
        calls++;
        asked++;
        try {
            long want = ModelTest.answer(y, plain.get(name), args);
            long got = ModelTest.answer(x, own.get(name), args);
            if (got != want) {
                wrong++;
                System.out.println("state " + state + ": " + name + Arrays.toString(args) + " answered " + got + ", due is " + want);
            }
            return got;
        } catch (IllegalAccessException | InvocationTargetException e) {
            wrong++;
            System.out.println("state " + state + ": " + name + Arrays.toString(args) + " threw " + e.getCause());
            return 0;
        }
    }

    private void everyMix(String name, Method method, int[] args, int at) {
        if (at == args.length) {
            if (calls >= MOST_CALLS) {
                begin();
            }
            call(name, args);
            return;
        }
        int[] numbers = method.getParameterTypes()[at] == boolean.class ? new int[] {0, 1} : WILD[args.length];
        for (int number : numbers) {
            args[at] = number;
            everyMix(name, method, args, at + 1);
        }
    }

    private int play() {
        for (Map.Entry<String, Method> one : own.entrySet()) {
            begin();
            everyMix(one.getKey(), one.getValue(), new int[one.getValue().getParameterCount()], 0);
        }
        return wrong;
    }

    public static void main(String[] args) {
        for (int state = 0; state < 3; state++) {
            WildTest test = new WildTest(state);
            Due.due("wrong in state " + state, test.play(), 0);
            System.out.println("state " + state + ": " + test.asked + " calls");
        }
        Due.close("WildTest");
    }
}
