/** Promises 35, 38 and 44 to 46: odds by all orders, the middle, what was said, another number beside. */
public final class SayingsTest {
    private static final long NO = -2000000000L;

    private static LadderSky row(int[] speeds, int[] fars) {
        StringBuilder s = new StringBuilder("base 1000;");
        for (int v : speeds) {
            s.append(v < 0 ? "toward " : "away ").append(Math.abs(v)).append(';');
        }
        for (int i = 0; i < fars.length; i++) {
            s.append("has ").append(i).append(" 0 ").append(fars[i]).append(" 0;");
        }
        return Due.told(s.toString(), "use 0;");
    }

    private static void chances() {
        Due.due("in order", row(new int[] {10, 20, 30}, new int[] {1, 2, 3}).chance(0, 0, 0), 1);
        Due.due("against it", row(new int[] {10, 20, 30}, new int[] {3, 2, 1}).chance(0, 0, 0), 6);
        Due.due("two of one far", row(new int[] {10, 20, 30}, new int[] {1, 1, 2}).chance(0, 0, 0), 2);
        // 140, then 130 130 110 110 and 100
        Due.due("as the second", row(new int[] {10, 20, 30}, new int[] {2, 1, 3}).chance(0, 0, 0), 3);
        Due.due("toward", row(new int[] {-10, 20}, new int[] {1, 2}).chance(0, 0, 0), 1);
        Due.due("toward and far", row(new int[] {-10, 20}, new int[] {2, 1}).chance(0, 0, 0), 2);
        Due.due("one", row(new int[] {10}, new int[] {1}).chance(0, 0, 0), -1);
        Due.due("none", row(new int[] {10}, new int[] {}).chance(0, 0, 0), -1);
        Due.due("seven alike", row(new int[] {1, 2, 3, 4, 5, 6, 7}, new int[] {5, 5, 5, 5, 5, 5, 5}).chance(0, 0, 0), 5040);
        Due.due("seven in order", row(new int[] {1, 2, 3, 4, 5, 6, 7}, new int[] {1, 2, 3, 4, 5, 6, 7}).chance(0, 0, 0), 1);
        Due.due("eight", row(new int[] {1, 2, 3, 4, 5, 6, 7, 8}, new int[] {5, 5, 5, 5, 5, 5, 5, 5}).chance(0, 0, 0), -1);
        LadderSky eight = row(new int[] {8, 7, 6, 5, 4, 3, 2, 1}, new int[] {1, 1, 1, 1, 1, 1, 1, 2});
        eight.cast(0, 0, true);
        Due.due("seven of eight, the slowest furthest", eight.chance(0, 0, 0), 5040);
        // fars of 0 are fars
        LadderSky zero = Due.told("base 1;away 1;away 2;has 0 0 1 0;has 1 0 1 0;", "use 0;");
        Due.due("of fars of 0", zero.chance(0, 0, 0), 2);
    }

    private static void middles() {
        Due.due("of three", row(new int[] {10, 50, 30}, new int[] {1, 1, 1}).middle(0, 0, 0), 30000);
        Due.due("of four the lower", row(new int[] {10, 50, 30, 20}, new int[] {1, 1, 1, 1}).middle(0, 0, 0), 20000);
        Due.due("of one", row(new int[] {10}, new int[] {3}).middle(0, 0, 0), 3333);
        Due.due("cut toward 0", row(new int[] {-10}, new int[] {3}).middle(0, 0, 0), -3333);
        Due.due("by size", row(new int[] {-10, 1, -30}, new int[] {1, 1, 1}).middle(0, 0, 0), -10000);
        Due.due("of none", row(new int[] {10}, new int[] {}).middle(0, 0, 0), NO);
        LadderSky zero = Due.told("base 1;base 1000;away 1;away 2;away 9;has 0 0 1 0;has 1 0 1 0;has 2 1 1 5;", "use 0;use 1;");
        Due.due("fars of 0 alone", zero.middle(0, 0, 0), NO);
        Due.due("fars above 0", zero.middle(0, 0, 5), 9000);
        int[][] wrong = {{1, 0, 0}, {-1, 0, 0}, {0, 1, 0}, {0, -1, 0}, {0, 0, 100}, {0, 0, -1}};
        for (int[] w : wrong) {
            Due.due("middle of none", zero.middle(w[0], w[1], w[2]), NO);
            Due.due("chance of none", zero.chance(w[0], w[1], w[2]), -1);
            Due.due("beside of none", zero.beside(w[0], w[1], w[2], 1, 2), NO);
        }
    }

    private static void saying() {
        LadderSky x = Due.told("", "", "");
        int[][] wrong = {{2, 0, 1, 2}, {-1, 0, 1, 2}, {0, -1, 1, 2}, {0, 100, 1, 2}, {0, 0, 2, 2}, {0, 0, 3, 2}, {0, 0, -1000000, 2},
            {0, 0, 1, 1000000}, {0, 0, Integer.MIN_VALUE, Integer.MAX_VALUE}};
        for (int[] w : wrong) {
            Due.due("no saying", x.say(w[0], w[1], w[2], w[3]), -1);
        }
        for (int i = 0; i < 16; i++) {
            Due.due("saying " + i, x.say(i % 2, 99 * (i % 2), -999999, i == 0 ? 999999 : -999998), i);
        }
        Due.due("a 17th", x.say(0, 0, 1, 2), -1);
        Due.due("count", x.count(3), 16);
        Due.due("the last", x.kept(0, 25), 0);
        Due.due("behind it", x.kept(0, 26), -1);
        Due.due("until of the last", x.kept(0, 45), 99);
        Due.due("behind it", x.kept(0, 46), -1);
    }

    private static void keeping() {
        // H: 10000 from year 10 on, 9000 from year 40 on; the second house has none
        LadderSky x = Due.told("base 1000;away 100;away 80;has 0 0 10 10;has 1 0 10 40;", "use 0;", "");
        Due.due("H by 99", x.line(0, 0, 99, 1), 9000);
        Due.due("none kept", x.kept(0, 0), 0);
        Due.due("none has an H", x.kept(0, 1), 0);
        Due.due("wider of none", x.kept(0, 2), 0);
        x.say(0, 10, 9000, 10000);
        x.say(0, 10, 9001, 10000);
        x.say(0, 0, 8000, 9000);
        x.say(0, 40, 8000, 9001);
        x.say(1, 5, -5, 5);
        x.say(0, 0, 8000, 8999);
        x.say(0, 41, 1, 2);
        int[] kept = {1, 0, 1, 1, 0, 0, 0};
        int[] until = {-1, 40, 0, -1, 5, 0, 41};
        for (int k = 0; k < kept.length; k++) {
            Due.due("kept " + k, x.kept(0, 10 + k), kept[k]);
            Due.due("until " + k, x.kept(0, 30 + k), until[k]);
        }
        Due.due("how many", x.kept(0, 0), 3);
        Due.due("with an H", x.kept(0, 1), 6);
        // the last: 18000 - 3 = 17997, times 100, by 1: more than 1000000
        Due.due("none is wide enough", x.kept(0, 2), -1);
        Due.due("what 3", x.kept(0, 3), -1);
        Due.due("what -1", x.kept(0, -1), -1);
        Due.due("saying 7", x.kept(0, 17), -1);
        Due.due("until of saying 7", x.kept(0, 37), -1);
        Due.due("of none", x.kept(1, 0), -1);
        Due.due("of -1", x.kept(-1, 0), -1);
    }

    private static void widening() {
        int[][] due = {{9000, 10000, 100}, {9001, 10000, 101}, {8000, 10000, 0}, {8000, 10001, 1}, {8999, 9000, 100}, {9001, 9002, 300},
            {4999, 5001, 400000}, {3999, 4000, -1}, {3999, 4001, 500000}, {-1000, -999, -1}, {-999, -997, 999800}, {-1001, -999, 1000000},
            {-1002, -1000, -1}};
        for (int[] d : due) {
            LadderSky x = Due.told("base 1000;away 90;has 0 0 10 0;", "use 0;", "");
            x.say(1, 0, 5, 6);
            x.say(0, 0, d[0], d[1]);
            Due.due("wider than " + d[0] + " to " + d[1], x.kept(0, 2), d[2]);
        }
        LadderSky y = Due.told("base 1000;away 505;has 0 0 1 0;", "use 0;");
        y.say(0, 0, -51, 50);
        Due.due("1000001 is too much", y.kept(0, 2), -1);
        LadderSky x = Due.told("base 1000;away 90;has 0 0 10 0;", "use 0;");
        x.say(0, 0, 9001, 9002);
        x.say(0, 0, 9001, 10000);
        Due.due("for all", x.kept(0, 2), 300);
    }

    private static void besides() {
        LadderSky x = Due.told("base 1000;away 90;has 0 0 10 5;", "use 0;");
        int[][] due = {{5, 8999, 1}, {5, 9000, 0}, {9000, 9000, 0}, {9001, 9500, -1}, {-5, -5, 9005},
            {Integer.MIN_VALUE, Integer.MAX_VALUE, 0}};
        for (int[] d : due) {
            Due.due("beside " + d[0] + " to " + d[1], x.beside(0, 0, 5, d[0], d[1]), d[2]);
        }
        Due.due("far above", x.beside(0, 0, 5, Integer.MIN_VALUE, Integer.MIN_VALUE), 9000L + 2147483648L);
        Due.due("far below", x.beside(0, 0, 5, Integer.MAX_VALUE, Integer.MAX_VALUE), 9000L - 2147483647L);
        Due.due("low above high", x.beside(0, 0, 5, 3, 2), NO);
        Due.due("no H", x.beside(0, 0, 4, 2, 3), NO);
    }

    public static void main(String[] args) {
        chances();
        middles();
        saying();
        keeping();
        widening();
        besides();
        Due.close("SayingsTest");
    }
}
