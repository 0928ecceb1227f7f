/** Promises 30 to 34: skies, what a limit chooses, catalogues made by seeds. */
public final class SkyTest {
    private static LadderSky told(String sky) {
        LadderSky x = new LadderSky();
        Due.due("sky " + sky, Due.tell(x, 2, -1, sky), 0);
        return x;
    }

    private static void aSky() {
        LadderSky x = told("light 100 1;light 999 9;speed 5;speed 1000;own 999;err 50;limit 9999;tries 7;");
        int[][] due = {{0, 2}, {1, 1000}, {2, 999}, {3, 50}, {4, 9999}, {5, 7}, {6, -1}, {9, -1}, {10, 100}, {11, 999}, {12, -1}, {19, -1},
            {20, 1}, {21, 9}, {22, -1}, {-1, -1}, {Integer.MAX_VALUE, -1}};
        for (int[] d : due) {
            Due.due("sky " + d[0], x.sky(0, d[0]), d[1]);
        }
        Due.due("sky of none", x.sky(1, 0), -1);
        Due.due("sky of -1", x.sky(-1, 0), -1);
        LadderSky y = told("light 5 5;");
        int[] first = {1, 0, 0, 0, 1, 24};
        for (int what = 0; what < first.length; what++) {
            Due.due("at first " + what, y.sky(0, what), first[what]);
        }
    }

    private static void seeing() {
        // 100 is seen to 100, 1 to 10
        LadderSky x = told("light 100 1;light 1 3;limit 100;");
        int[][] due = {{1, 4}, {10, 4}, {11, 1}, {100, 1}, {101, 0}, {200, 0}, {201, -1}, {0, -1}, {-1, -1}};
        for (int[] d : due) {
            Due.due("seen at " + d[0], x.seen(0, d[0]), d[1]);
        }
        Due.due("seen of none", x.seen(1, 5), -1);
        Due.due("seen of -1", x.seen(-1, 5), -1);
        Due.due("above at 10", x.chosen(0, 10, false, false), 1);
        Due.due("below at 10", x.chosen(0, 10, false, true), 1);
        Due.due("above at 11", x.chosen(0, 11, false, false), 400);
        Due.due("below at 11", x.chosen(0, 11, false, true), 103);
        Due.due("none seen", x.chosen(0, 101, false, false), -1);
        Due.due("none seen, below", x.chosen(0, 101, false, true), -1);
        Due.due("at 200", x.chosen(0, 200, false, true), -1);
        Due.due("at 201", x.chosen(0, 201, false, true), -1);
        Due.due("at 0", x.chosen(0, 0, false, true), -1);
        Due.due("of none", x.chosen(1, 1, false, true), -1);
        Due.due("of -1", x.chosen(-1, 1, true, true), -1);
        // to 11: 385 * 4 + 121 are seen, with 385 * 103 + 12100; the mean of all is 103 by 4
        // 51755 * 4 by 1661 * 103 is 207020 by 171083, and 11 is in both
        Due.due("above to 11", x.chosen(0, 11, true, false), 18820);
        Due.due("below to 11", x.chosen(0, 11, true, true), 15553);
        Due.due("above to 10", x.chosen(0, 10, true, false), 1);
        Due.due("to 60 there is one", x.chosen(0, 60, true, false) > x.chosen(0, 60, true, true), true);
        Due.due("to 61", x.chosen(0, 61, true, false), -1);
        Due.due("to 0", x.chosen(0, 0, true, false), -1);
        LadderSky y = told("light 1 1;limit 9999;");
        Due.due("seen at 1", y.seen(0, 1), 1);
        Due.due("not at 2", y.seen(0, 2), 0);
        Due.due("none at 2", y.chosen(0, 2, false, false), -1);
        Due.due("but to 2", y.chosen(0, 2, true, false), 1);
        // 9990000 against 6244 * 1600 and 6243 * 1600
        Due.due("just not", told("light 999 1;limit 6244;").seen(0, 40), 0);
        Due.due("just", told("light 999 1;limit 6243;").seen(0, 40), 1);
    }

    private static void making() {
        // the rows were drawn by another program
        LadderSky x = told("light 300 2;light 20 3;speed 150;own 40;err 20;limit 30;tries 6;");
        int[][] one = {{87, 39, 75}, {40, 20, 34}, {307, -1, 347}, {118, -1, 129}, {164, -1, 270}};
        int[][] other = {{2, 5, 11}, {19, 2, 4}, {76, -1, 109}, {67, 25, 46}, {247, -1, 343}};
        Due.due("make 1", x.make(0, -1, 1), 0);
        see(x, 0, one);
        Due.due("make -7", x.make(0, -1, -7), 1);
        see(x, 1, other);
        see(x, 0, one);
        Due.due("in place", x.make(0, 0, -7), 0);
        see(x, 0, other);
        Due.due("a third", x.make(0, -1, 1), 2);
        Due.due("no fourth", x.make(0, -1, 1), -1);
        Due.due("in place of the third", x.make(0, 2, 1), 2);
        Due.due("in place of a fourth", x.make(0, 3, 1), -1);
        Due.due("at -2", x.make(0, -2, 1), -1);
        Due.due("of no sky", x.make(1, 0, 1), -1);
        Due.due("of sky -1", x.make(-1, -1, 1), -1);
        Due.due("three", x.count(0), 3);
        // stones and entries of the one ahead are gone
        LadderSky y = told("light 1 1;limit 9999;tries 1;");
        Due.tell(y, 0, -1, "base 1;base 2;base 3;away 1;stone 1;has 0 2 1 1;");
        Due.due("a faint sky", y.make(0, 0, 3), 0);
        int[][] due = {{0, 2}, {1, 0}, {2, 0}, {3, 0}, {10, 1100}, {11, 0}, {12, -1}};
        for (int[] d : due) {
            Due.due("about " + d[0], y.about(0, d[0]), d[1]);
        }
        LadderSky z = told("light 999 9;speed 1000;own 999;err 50;");
        Due.due("all are seen", z.make(0, -1, 12345), 0);
        Due.due("24", z.about(0, 1), 24);
        int[][] five = {{283, 37, 84}, {496, -1, 184}, {176, 11, 21}, {2478, -1, 311}, {690, 2, 3}};
        for (int t = 0; t < 5; t++) {
            Due.due("speed " + t, z.speed(0, t), five[t][0]);
            Due.due("raw 0 of " + t, z.entry(0, t, 0, false), five[t][1]);
            Due.due("raw 1 of " + t, z.entry(0, t, 1, false), five[t][2]);
        }
    }

    private static void see(LadderSky x, int catalogue, int[][] rows) {
        Due.due("rungs", x.about(catalogue, 0), 2);
        Due.due("things", x.about(catalogue, 1), rows.length);
        Due.due("base", x.about(catalogue, 10), 1100);
        Due.due("on", x.about(catalogue, 11), 0);
        for (int t = 0; t < rows.length; t++) {
            Due.due("speed " + t, x.speed(catalogue, t), rows[t][0]);
            Due.due("raw 0 of " + t, x.entry(catalogue, t, 0, false), rows[t][1]);
            Due.due("raw 1 of " + t, x.entry(catalogue, t, 1, false), rows[t][2]);
            Due.due("year of " + t, x.entry(catalogue, t, 1, true), 0);
        }
    }

    private static void manyWorlds() {
        int[][] due = {{1, 2, 1000, 0}, {4, 10, 1000, 4}, {24, 20, 1000, 19}};
        for (int[] d : due) {
            LadderSky x = told("light 999 1;speed 100;tries " + d[0] + ";");
            Due.tell(x, 1, -1, "use 0;");
            for (int what = 0; what < 3; what++) {
                Due.due("worlds by " + d[0] + ", " + what, x.worlds(0, 0, 5, 20, what), d[what + 1]);
            }
        }
        LadderSky x = told("light 999 1;speed 100;own 30;tries 8;");
        Due.tell(x, 1, -1, "use 0;");
        Due.tell(x, 1, -1, "");
        Due.due("with an H", x.worlds(0, 0, 100, 20, 0), 18);
        Due.due("together", x.worlds(0, 0, 100, 20, 1), 1293);
        Due.due("hit", x.worlds(0, 0, 100, 20, 2), 10);
        Due.due("none has one", x.worlds(0, 1, 100, 20, 0), 0);
        Due.due("none together", x.worlds(0, 1, 100, 20, 1), -1);
        Due.due("none hit", x.worlds(0, 1, 100, 20, 2), 0);
        Due.due("no catalogue is told by that", x.count(0), 0);
        long sum = 0;
        for (int i = 0; i < 4; i++) {
            sum += x.worlds(0, 0, Integer.MAX_VALUE - 1 + i, 1, 0);
        }
        Due.due("seeds go round", x.worlds(0, 0, Integer.MAX_VALUE - 1, 4, 0), sum);
        int[][] wrong = {{1, 0, 1, 0}, {-1, 0, 1, 0}, {0, 2, 1, 0}, {0, -1, 1, 0}, {0, 0, 0, 0}, {0, 0, 21, 0}, {0, 0, 20, 3}, {0, 0, 20, -1}};
        for (int[] w : wrong) {
            Due.due("worlds of none", x.worlds(w[0], w[1], 9, w[2], w[3]), -1);
        }
    }

    public static void main(String[] args) {
        aSky();
        seeing();
        making();
        manyWorlds();
        Due.close("SkyTest");
    }
}
