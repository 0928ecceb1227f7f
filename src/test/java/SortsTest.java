/** Promises 29, 36 and 37: a rung that is two sorts, how many sets are as good, what lies above. */
public final class SortsTest {
    private static final String TWO = "base 1000;on 0;away 1;away 1;away 1;away 1;away 1;"
        + "has 0 0 10 0;has 1 0 20 0;has 2 0 11 0;has 3 0 21 0;has 0 1 10 0;has 1 1 10 0;has 2 1 10 0;has 3 1 10 4;has 4 1 10 0;";

    private static void rows(String name, LadderSky x, int house, int year, int rung, int[][] due) {
        for (int[] d : due) {
            Due.due(name + ", sorts " + d[0], x.sorts(0, house, year, rung, d[0]), d[1]);
        }
    }

    private static void twoSorts() {
        LadderSky x = Due.told(TWO, "use 0;use 1;", "use 0;way last;throw faster 0;", "use 1;", "use 0;cast 2;cast 1;cast 3;", "use 0;cast 2;cast 1;");
        rows("1000 1100 2000 2100", x, 0, 9, 1,
            new int[][] {{0, 2}, {1, 4}, {2, 1050}, {3, 2050}, {10, 0}, {11, 2}, {12, 1}, {13, 3}, {14, -1}, {4, -1}, {9, -1}, {-1, -1},
                {Integer.MAX_VALUE, -1}, {Integer.MIN_VALUE, -1}});
        rows("by year 3", x, 0, 3, 1, new int[][] {{0, 2}, {1, 3}, {2, 1050}, {3, 2000}, {12, 1}, {13, -1}});
        rows("rules and ways do not matter", x, 1, 9, 1, new int[][] {{0, 2}, {1, 4}, {2, 1050}, {3, 2050}});
        rows("by itself none", x, 2, 9, 1, new int[][] {{0, -1}, {1, 0}, {2, -1}, {3, -1}, {10, -1}});
        rows("one alone", x, 3, 9, 1, new int[][] {{0, -1}, {1, 1}, {2, -1}, {3, -1}, {10, 0}, {11, -1}});
        rows("two", x, 4, 9, 1, new int[][] {{0, 1}, {1, 2}, {2, 1000}, {3, 2100}, {11, 3}});
        Due.due("alike", x.alike(0, 0, 9, 1), 2);
        Due.due("alike of none", x.alike(0, 2, 9, 1), -1);
        Due.due("alike of one", x.alike(0, 3, 9, 1), -1);
        Due.due("alike of two", x.alike(0, 4, 9, 1), 2);
        Due.due("above 1100", x.heaps(0, 0, 9, 1, 100), 0b1010);
        Due.due("above 1001", x.heaps(0, 0, 9, 1, 91), 0b1110);
        Due.due("above 990", x.heaps(0, 0, 9, 1, 90), 0b1111);
        Due.due("above 2101", x.heaps(0, 0, 9, 1, 191), 0);
        Due.due("above 2090", x.heaps(0, 0, 9, 1, 190), 0b1000);
        Due.due("above 11", x.heaps(0, 0, 9, 1, 1), 0b1111);
        Due.due("above much", x.heaps(0, 0, 9, 1, 999), 0);
        Due.due("f of 0", x.heaps(0, 0, 9, 1, 0), -1);
        Due.due("f of 1000", x.heaps(0, 0, 9, 1, 1000), -1);
        Due.due("heaps of none", x.heaps(0, 2, 9, 1, 100), -1);
        Due.due("heaps of one", x.heaps(0, 3, 9, 1, 99), 1);
        int[][] wrong = {{1, 0, 0, 1}, {-1, 0, 0, 1}, {0, 5, 0, 1}, {0, -1, 0, 1}, {0, 0, 100, 1}, {0, 0, -1, 1}, {0, 0, 0, 2}, {0, 0, 0, -1}};
        for (int[] w : wrong) {
            Due.due("sorts of none", x.sorts(w[0], w[1], w[2], w[3], 1), -1);
            Due.due("alike of none", x.alike(w[0], w[1], w[2], w[3]), -1);
            Due.due("heaps of none", x.heaps(w[0], w[1], w[2], w[3], 100), -1);
        }
    }

    private static void equals() {
        LadderSky x = Due.told("base 1000;base 1000;away 1;away 1;away 1;has 0 0 7 0;has 1 0 7 0;has 2 0 7 0;has 0 1 7 0;has 1 1 7 0;has 2 1 7 0;", "use 0;use 1;");
        rows("all one", x, 0, 0, 0, new int[][] {{0, 1}, {1, 3}, {2, 1000}, {3, 1000}, {10, 0}, {11, 1}, {12, 2}});
        Due.due("all sets", x.alike(0, 0, 0, 0), 6);
        // 0 1000 2000: k of 1 and of 2 spread alike; so do the sets of the least alone and of the greatest alone
        LadderSky y = Due.told("base 1000;base 1000;away 1;away 1;away 1;has 0 0 5 0;has 1 0 5 0;has 2 0 5 0;has 0 1 15 0;has 1 1 10 0;has 2 1 5 0;", "use 1;");
        rows("a row", y, 0, 0, 0, new int[][] {{0, 1}, {2, 1000}, {3, 2500}, {10, 2}, {11, 1}, {12, 0}});
        Due.due("sets of the row", y.alike(0, 0, 0, 0), 4);
        // means are not cut: 0 0 1 | 3 has 2 by 3, 0 0 | 1 3 has 2
        LadderSky z = Due.told("base 1;base 1000;away 1;away 1;away 1;away 1;has 0 0 9999 0;has 1 0 9999 0;has 2 0 1000 0;has 3 0 1000 0;"
            + "has 0 1 1 0;has 1 1 2 0;has 2 1 1 0;has 3 1 3 0;", "use 1;");
        rows("not cut", z, 0, 0, 0, new int[][] {{0, 3}, {2, 0}, {3, 3}, {10, 0}, {11, 1}, {12, 2}, {13, 3}});
        z.has(0, 3, 1, 1, 0);
        z.has(0, 1, 1, 1, 0);
        rows("0 0 1 1", z, 0, 0, 0, new int[][] {{0, 2}, {2, 0}, {3, 1}});
        Due.due("middle of 0", z.heaps(0, 0, 0, 0, 999), 0b1100);
    }

    private static void zeros() {
        LadderSky x = Due.told("base 1;base 1000;away 1;away 1;has 0 0 9999 0;has 1 0 9999 0;has 0 1 1 0;has 1 1 1 0;", "use 1;");
        rows("zeros", x, 0, 0, 0, new int[][] {{0, 1}, {1, 2}, {2, 0}, {3, 0}, {10, 0}, {11, 1}});
        Due.due("alike", x.alike(0, 0, 0, 0), 2);
        Due.due("nothing is more", x.heaps(0, 0, 0, 0, 1), 0);
    }

    private static void choice() {
        // by the other rungs as first: of the least step, of several the least rung
        LadderSky x = Due.told("base 1000;on 0;base 1000;base 9999;away 1;has 0 0 8 0;has 0 1 4 0;has 0 2 6 0;has 0 3 9999 0;", "use 0;use 1;use 2;use 3;way mean;", "use 1;use 2;");
        Due.due("rung 1 by rung 0", x.heaps(0, 0, 0, 1, 99), 1);
        Due.due("one", x.sorts(0, 0, 0, 1, 1), 1);
        LadderSky y = Due.told("base 1000;on 0;base 1000;away 1;away 1;has 0 0 8 0;has 0 1 4 0;has 0 2 6 0;has 1 0 1 0;has 1 1 1 0;has 1 2 1 0;", "use 0;use 1;use 2;way last;", "use 1;use 2;");
        rows("rung 1 by 0", y, 0, 0, 1, new int[][] {{2, 1000}, {3, 2000}});
        rows("rung 0 by 2", y, 0, 0, 0, new int[][] {{2, 750}, {3, 1000}});
        rows("rung 1 by 2", y, 1, 0, 1, new int[][] {{2, 1000}, {3, 1500}});
        rows("rung 2 by 1: 7 by 6 and 1 by 1", y, 1, 0, 2, new int[][] {{2, 1000}, {3, 1166}});
        // q is 999999 at most
        LadderSky z = Due.told("base 9999;base 1;away 1;away 1;has 0 0 9999 0;has 1 0 9999 0;has 0 1 1 0;has 1 1 9999 0;", "use 0;");
        rows("great", z, 0, 0, 1, new int[][] {{2, 9998}, {3, 999999}});
    }

    private static void many() {
        for (int n = 14; n <= 15; n++) {
            LadderSky x = Due.told("base 1000;base 1000;" + "away 1;".repeat(n), "use 0;");
            for (int thing = 0; thing < n; thing++) {
                x.has(0, thing, 0, 5, 0);
                x.has(0, thing, 1, 5, 0);
            }
            Due.due("n", x.sorts(0, 0, 0, 1, 1), n);
            Due.due("k", x.sorts(0, 0, 0, 1, 0), 1);
            Due.due("alike of " + n, x.alike(0, 0, 0, 1), n == 14 ? 16382 : -1);
            Due.due("heaps of " + n, x.heaps(0, 0, 0, 1, 99), (1 << n) - 1);
        }
    }

    public static void main(String[] args) {
        twoSorts();
        equals();
        zeros();
        choice();
        many();
        Due.close("SortsTest");
    }
}
