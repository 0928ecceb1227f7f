/** Boundary sentences of promises 25 to 29 and 35 to 43: what the calls about houses, years, sorts and odds refuse. */
final class HouseEdges {
    private static final long NO = Edge.NO;
    private static final int[] C = Edge.but(2);
    private static final int[] H = Edge.but(3);
    private static final int[] Y = Edge.butYears();
    private static final int[] R = Edge.but(3);

    private HouseEdges() {
    }

    /** Three rungs, four things, the last of them without a far; the third house uses nothing. The second catalogue has nothing. */
    private static LadderSky some() {
        LadderSky x = Due.told("base 1000;on 0;base 2000;away 10;away 30;toward 5;away 90;has 0 0 1 0;has 1 0 2 0;has 2 0 1 3;has 1 1 4 1;has 0 2 1 0;has 0 1 9 0;",
            "use 0;use 1;use 2;", "use 0;use 2;way last;lean 2 up 9;", "");
        Due.due("another catalogue, of nothing", Due.tell(x, 0, -1, ""), 1);
        return x;
    }

    static void all() {
        twoHouses();
        years();
        sorts();
        line();
    }

    private static void twoHouses() {
        Edge.plain("Promise 25", "PART.");
        Edge.of("Promise 25", "NONE: there is no H of a, none by any RUNG, or there is none such (of any).", HouseEdges::noPart);
        Edge.plain("Promise 26", "Whether they AGREE.");
        Edge.of("Promise 26", "False, too, if there is no LOW (of either), or none such (of any).", HouseEdges::noAgreement);
        Edge.plain("Promise 39", "ACROSS.");
        Edge.of("Promise 39", "NONE: there is no THING that has both, or there is none such (of any).", HouseEdges::noAcross);
        Edge.plain("Promise 40", "PATH.");
        Edge.of("Promise 40", "-2000000000: there is no H, or there is none such (of any).", HouseEdges::noPath);
        Edge.plain("Promise 41", "STRAIT.");
        Edge.of("Promise 41", "NONE: there is none with a LOW, or there is none such (of any).", HouseEdges::noStrait);
    }

    private static void years() {
        Edge.plain("Promise 27", "SINCE.");
        Edge.of("Promise 27", "NONE: by none, or there is none such (of either).", HouseEdges::noSince);
        Edge.of("Promise 28", "STANDS by p, 0 .. 100.", HouseEdges::standsRange);
        Edge.of("Promise 28", "NONE: there is no H by YEAR 99, or there is none such (of any).", HouseEdges::noStands);
        Edge.plain("Promise 42", "CHANGES.");
        Edge.of("Promise 42", "NONE: there is none such (of either).", HouseEdges::noChanges);
        Edge.plain("Promise 43", "NEXT.");
        Edge.of("Promise 43", "NONE: there is no H, or H is 0, none such THING with a LOW, or there is none such (of any).", HouseEdges::noNext);
    }

    private static void sorts() {
        Edge.of("Promise 29", "SORTS, what 0: k, 1: n, 2, 3: the mean q of the first, of the others, cut, 10 + i: the i-th THING in order.", HouseEdges::sortsInOrder);
        Edge.of("Promise 29", "NONE: n is below 2 (for k, means), there is none such (of any), or for another what.", HouseEdges::noSorts);
        Edge.plain("Promise 36", "ALIKE.");
        Edge.of("Promise 36", "NONE: n is another one, or there is none such (of any).", HouseEdges::noAlike);
        Edge.plain("Promise 37", "HEAPS.");
        Edge.of("Promise 37", "NONE: n is 0, or there is none such (of any).", HouseEdges::noHeaps);
    }

    private static void line() {
        Edge.plain("Promise 35", "BY CHANCE.");
        Edge.of("Promise 35", "NONE: other THINGS than 2 to 7, or there is none such (of any).", HouseEdges::noChance);
        Edge.plain("Promise 38", "MIDDLE.");
        Edge.of("Promise 38", "-2000000000: there are none, or there is none such (of any).", HouseEdges::noMiddle);
    }

    private static void noPart() {
        LadderSky x = some();
        Edge.refuses("part", a -> x.part(a[0], a[1], a[2], a[3]), -1, new int[] {0, 0, 1, 0}, C, H, H, Y);
        Due.due("no H of a", x.part(0, 2, 0, 0), -1);
        Due.due("of nothing", x.part(1, 0, 1, 0), -1);
        LadderSky y = Due.told("base 1000;away 1;has 0 0 1 0;", "use 0;", "");
        Due.due("none by any rung", y.part(0, 0, 1, 0), -1);
        Due.due("none by none", y.part(0, 1, 1, 0), -1);
    }

    private static void noAgreement() {
        LadderSky x = some();
        Edge.refuses("agree", a -> x.agree(a[0], a[1], a[2], a[3]) ? 1 : 0, 0, new int[] {0, 0, 0, 0}, C, H, H, Y);
        Due.due("no low of b", x.agree(0, 0, 2, 0), false);
        Due.due("no low of a", x.agree(0, 2, 0, 0), false);
        Due.due("no low of both", x.agree(0, 2, 2, 0), false);
        Due.due("of nothing", x.agree(1, 0, 0, 0), false);
        LadderSky y = Due.told("base 1000;base 1000;away 1;away 1;has 0 0 1 0;has 0 1 1 0;has 1 1 1 0;", "use 0;", "use 1;");
        Due.due("an H, but no low", y.agree(0, 0, 1, 0), false);
        Due.due("either way", y.agree(0, 1, 0, 0), false);
    }

    private static void noAcross() {
        LadderSky x = some();
        Edge.refuses("across", a -> x.across(a[0], a[1], a[2], a[3]), -1, new int[] {0, 0, 1, 0}, C, H, H, Y);
        Due.due("none has one of b", x.across(0, 0, 2, 0), -1);
        Due.due("none has one of a", x.across(0, 2, 0, 0), -1);
        Due.due("of nothing", x.across(1, 0, 1, 0), -1);
        LadderSky y = Due.told("base 1000;base 1000;away 1;away 1;has 0 0 1 0;has 1 1 1 0;", "use 0;", "use 1;");
        Due.due("each has one, none both", y.across(0, 0, 1, 0), -1);
        y.has(0, 1, 0, 1, 7);
        Due.due("by 6", y.across(0, 0, 1, 6), -1);
        Due.due("by 7", y.across(0, 0, 1, 7), 1);
    }

    private static void noPath() {
        LadderSky x = some();
        Edge.refuses("path", a -> x.path(a[0], a[1], a[2], a[3], a[4]), NO, new int[] {0, 0, 1, 0, 2}, C, H, H, Y, R);
        Due.due("no H of either", x.path(0, 2, 2, 0, 2), NO);
        Due.due("to nothing by all rungs", x.path(0, 0, 2, 0, 2), NO);
        Due.due("of no rungs", x.path(1, 0, 1, 0, 0), NO);
        LadderSky six = Due.told("base 1;base 1;base 1;base 1;base 1;base 1000;away 1;has 0 5 1 0;", "use 5;");
        Due.due("to the sixth rung", six.path(0, 0, 0, 0, 5), 1000);
        Due.due("behind it", six.path(0, 0, 0, 0, 6), NO);
    }

    private static void noStrait() {
        LadderSky x = some();
        Edge.refuses("strait", a -> x.strait(a[0], a[1], a[2]), -1, new int[] {0, 0, 0}, C, H, Y);
        Due.due("it uses nothing", x.strait(0, 2, 0), -1);
        Due.due("of nothing", x.strait(1, 0, 0), -1);
        LadderSky y = Due.told("base 1000;base 1000;away 1;away 1;has 0 0 1 0;has 1 0 1 0;has 0 1 1 0;", "use 0;", "use 0;use 1;", "use 1;");
        Due.due("without the only one", y.strait(0, 0, 0), -1);
        Due.due("without rung 0 an H, but no low", y.strait(0, 1, 0), 1);
        Due.due("without it nothing", y.strait(0, 2, 0), -1);
    }

    private static void noSince() {
        LadderSky x = some();
        Edge.refuses("since", a -> x.since(a[0], a[1]), -1, new int[] {0, 0}, C, H);
        Due.due("by none", x.since(0, 2), -1);
        Due.due("of nothing", x.since(1, 0), -1);
    }

    private static void standsRange() {
        LadderSky x = some();
        Due.due("by 0", x.stands(0, 0, 0), 3);
        Due.due("by 100", x.stands(0, 0, 100), 0);
        for (int p : new int[] {-1, 101, 200, -100, Integer.MIN_VALUE, Integer.MAX_VALUE}) {
            Due.due("by " + p, x.stands(0, 0, p), -1);
        }
    }

    private static void noStands() {
        LadderSky x = some();
        Edge.refuses("stands", a -> x.stands(a[0], a[1], a[2]), -1, new int[] {0, 0, 50}, C, H, new int[] {-1, 101});
        Due.due("never an H", x.stands(0, 2, 50), -1);
        Due.due("of nothing", x.stands(1, 0, 50), -1);
        LadderSky y = Due.told("base 1000;base 1000;away 1;has 0 0 9 1;has 0 1 99 99;", "use 0;use 1;way last;throw farther 50;");
        Due.due("an H by 98", y.line(0, 0, 98, 0), 1);
        Due.due("none by 99", y.stands(0, 0, 100), -1);
    }

    private static void noChanges() {
        LadderSky x = some();
        Edge.refuses("changes", a -> x.changes(a[0], a[1]), -1, new int[] {0, 0}, C, H);
        Due.due("never an H", x.changes(0, 2), 0);
        Due.due("of nothing", x.changes(1, 0), 0);
    }

    private static void noNext() {
        LadderSky x = some();
        Edge.refuses("next", a -> x.next(a[0], a[1], a[2]), -1, new int[] {0, 0, 3}, C, H, Y);
        Due.due("no H", x.next(0, 2, 0), -1);
        Due.due("of nothing", x.next(1, 0, 0), -1);
        LadderSky y = Due.told("base 1000;away 0;away 5;has 0 0 1 0;", "use 0;");
        Due.due("H of 0", y.next(0, 0, 0), -1);
        LadderSky z = Due.told("base 1000;away 5;has 0 0 1 0;", "use 0;");
        Due.due("all have a far", z.next(0, 0, 0), -1);
        LadderSky w = Due.told("base 1000;away 5;away 7;has 0 0 1 0;", "use 0;cast 1;");
        Due.due("the others are cast", w.next(0, 0, 0), -1);
        w.cast(0, 1, false);
        Due.due("no more", w.next(0, 0, 0), 1);
    }

    /** So many things, the first with the greatest q of rung 1: q are 1000 * n, .., 2000, 1000. */
    private static LadderSky falling(int n) {
        LadderSky x = Due.told("base 1000;base 1000;" + "away 1;".repeat(Math.max(1, n)), "use 0;use 1;", "use 1;");
        for (int thing = 0; thing < n; thing++) {
            x.has(0, thing, 0, n - thing, 0);
            x.has(0, thing, 1, 1, 0);
        }
        return x;
    }

    private static void sortsInOrder() {
        LadderSky x = falling(24);
        Due.due("n", x.sorts(0, 0, 0, 1, 1), 24);
        for (int i = 0; i < 24; i++) {
            Due.due("from 0 on, " + i, x.sorts(0, 0, 0, 1, 10 + i), 23 - i);
        }
        Due.due("behind the last", x.sorts(0, 0, 0, 1, 34), -1);
        Due.due("k", x.sorts(0, 0, 0, 1, 0), 12);
        Due.due("mean of 1 .. 12", x.sorts(0, 0, 0, 1, 2), 6500);
        Due.due("mean of 13 .. 24", x.sorts(0, 0, 0, 1, 3), 18500);
        // cut: 1001 and 1002, then 5000
        LadderSky y = Due.told("base 1000;base 1000;away 1;away 1;away 1;has 0 0 1001 0;has 1 0 1002 0;has 2 0 5000 0;has 0 1 1000 0;has 1 1 1000 0;has 2 1 1000 0;", "use 0;");
        Due.due("k", y.sorts(0, 0, 0, 1, 0), 2);
        Due.due("2003 by 2", y.sorts(0, 0, 0, 1, 2), 1001);
    }

    private static void noSorts() {
        for (int what : new int[] {0, 1, 2, 3, 10}) {
            LadderSky x = falling(3);
            Edge.refuses("sorts, what " + what, a -> x.sorts(a[0], a[1], a[2], a[3], what), -1, new int[] {0, 0, 0, 1}, Edge.but(1), Edge.but(2), Y, Edge.but(2));
        }
        LadderSky z = falling(3);
        Edge.refuses("sorts", a -> z.sorts(0, 0, 0, 1, a[0]), -1, new int[] {0},
            new int[] {4, 5, 9, 13, 14, 33, 34, 42, -1, -10, Integer.MIN_VALUE, Integer.MIN_VALUE + 9, Integer.MAX_VALUE});
        for (int n = 0; n < 3; n++) {
            LadderSky x = falling(n);
            Due.due("n", x.sorts(0, 0, 0, 1, 1), n);
            for (int what : new int[] {0, 2, 3}) {
                Due.due("of " + n + ", what " + what, x.sorts(0, 0, 0, 1, what) == -1, n < 2);
            }
            for (int i = 0; i <= n; i++) {
                Due.due("thing " + i + " of " + n, x.sorts(0, 0, 0, 1, 10 + i), i < n ? n - 1 - i : -1);
            }
        }
    }

    private static void noAlike() {
        LadderSky x = falling(3);
        Edge.refuses("alike", a -> x.alike(a[0], a[1], a[2], a[3]), -1, new int[] {0, 0, 0, 1}, Edge.but(1), Edge.but(2), Y, Edge.but(2));
        int[][] due = {{0, -1}, {1, -1}, {2, 2}, {14, 2}, {15, -1}, {24, -1}};
        for (int[] d : due) {
            Due.due("alike of " + d[0], falling(d[0]).alike(0, 0, 0, 1), d[1]);
        }
        Due.due("by itself there is none", x.alike(0, 1, 0, 1), -1);
    }

    private static void noHeaps() {
        LadderSky x = falling(3);
        Edge.refuses("heaps", a -> x.heaps(a[0], a[1], a[2], a[3], a[4]), -1, new int[] {0, 0, 0, 1, 100}, Edge.but(1), Edge.but(2), Y, Edge.but(2),
            new int[] {0, 1000, -1, Integer.MIN_VALUE, Integer.MAX_VALUE});
        Due.due("of none", falling(0).heaps(0, 0, 0, 1, 100), -1);
        Due.due("by itself there is none", x.heaps(0, 1, 0, 1, 100), -1);
        Due.due("of one", falling(1).heaps(0, 0, 0, 1, 100), 0);
        Due.due("of 24 all but the first twelve by size", falling(24).heaps(0, 0, 0, 1, 100), (1 << 12) - 1);
    }

    private static void noChance() {
        LadderSky x = some();
        Edge.refuses("chance", a -> x.chance(a[0], a[1], a[2]), -1, new int[] {0, 0, 0}, C, H, Y);
        Due.due("no things", x.chance(0, 2, 0), -1);
        Due.due("of nothing", x.chance(1, 0, 0), -1);
        int[][] due = {{1, -1}, {2, 2}, {7, 5040}, {8, -1}, {24, -1}};
        for (int[] d : due) {
            Due.due("chance of " + d[0], falling(d[0]).chance(0, 0, 0), d[1]);
        }
    }

    private static void noMiddle() {
        LadderSky x = some();
        Edge.refuses("middle", a -> x.middle(a[0], a[1], a[2]), NO, new int[] {0, 0, 0}, C, H, Y);
        Due.due("no things", x.middle(0, 2, 0), NO);
        Due.due("of nothing", x.middle(1, 0, 0), NO);
        Due.due("fars of 0", Due.told("base 1;away 5;has 0 0 1 0;", "use 0;").middle(0, 0, 0), NO);
        Due.due("a middle of 0", Due.told("base 1000;away 0;has 0 0 1 0;", "use 0;").middle(0, 0, 0), 0);
    }
}
