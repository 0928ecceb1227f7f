import java.nio.ByteBuffer;
import java.nio.charset.StandardCharsets;
import java.util.Arrays;

/** What the tests share: holding answers against what is due, and telling texts by the tape. */
final class Due {
    private static long right = 0;
    private static long wrong = 0;

    private Due() {
    }

    static void due(String call, long got, long want) {
        if (got == want) {
            right++;
        } else {
            wrong++;
            System.out.println(call + " answered " + got + ", due is " + want);
        }
    }

    static void due(String call, boolean got, boolean want) {
        due(call, got ? 1 : 0, want ? 1 : 0);
    }

    static long asked() {
        return right + wrong;
    }

    static long wrong() {
        return wrong;
    }

    /** Ends the test; call it last. */
    static void close(String test) {
        System.out.println(test + ": " + right + " answers as due, " + wrong + " not");
        if (wrong != 0) {
            System.exit(1);
        }
    }

    static int[] numbers(byte[] twenty) {
        ByteBuffer b = ByteBuffer.wrap(twenty);
        return new int[] {b.getInt(), b.getInt(), b.getInt(), b.getInt(), b.getInt()};
    }

    /** Puts a text behind an empty tape: feeds of twenty bytes, then the end. */
    static void tape(LadderSky x, String text) {
        byte[] bytes = text.getBytes(StandardCharsets.ISO_8859_1);
        for (int at = 0; at < bytes.length; at += 20) {
            int[] n = numbers(Arrays.copyOfRange(bytes, at, at + 20));
            x.feed(n[0], n[1], n[2], n[3], n[4]);
        }
        x.end(bytes.length);
    }

    static int tell(LadderSky x, int sort, int at, String text) {
        tape(x, text);
        return x.text(sort, at);
    }

    static LadderSky told(String catalogue, String... houses) {
        LadderSky x = new LadderSky();
        due("catalogue " + catalogue, tell(x, 0, -1, catalogue), 0);
        for (int i = 0; i < houses.length; i++) {
            due("house " + houses[i], tell(x, 1, -1, houses[i]), i);
        }
        return x;
    }
}
