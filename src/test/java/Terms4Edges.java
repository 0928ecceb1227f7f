/** Boundary sentences of Terms 4: odds by all orders, heaps, paths, what is next, what was said. */
final class Terms4Edges {
    private static final String WHERE = "Terms 4";
    private static final long NO = Edge.NO;

    private Terms4Edges() {
    }

    static void all() {
        odds();
        houses();
        sayings();
    }

    private static void odds() {
        Edge.of(WHERE, "BY CHANCE of THE LINE of 2 to 7 THINGS:", Terms4Edges::twoToSeven);
        Edge.of(WHERE, "of all orders in which the FARS could stand by the SPEEDS, in how many the sum of v * d is at least what it is.", Terms4Edges::atLeastAsMuch);
        Edge.of(WHERE, "(THINGS of one FAR are unlike.)", Terms4Edges::unlikeThings);
        Edge.of(WHERE, "ALIKE of SORTS, n 2 to 14:", Terms4Edges::twoToFourteen);
        Edge.of(WHERE, "of all sets of THINGS, but none and all, in how many do those within and those without, each with their mean, spread at most as k does"
            + " (each set and what is without are two).", Terms4Edges::setsAsGood);
        Edge.of(WHERE, "HEAPS by f, 1 .. 999, of a RUNG:", Terms4Edges::heapRange);
        Edge.of(WHERE, "THINGS (bits) as in SORTS, whose q times 100 is more than f times the middle q: that at place (n - 1) / 2, cut.", Terms4Edges::moreThanTheMiddle);
        Edge.of(WHERE, "MIDDLE of THE LINE: of 1000 * v / d, cut, of THINGS with a FAR above 0, the one at place (n - 1) / 2, cut, by size.", Terms4Edges::middles);
    }

    private static void houses() {
        Edge.of(WHERE, "ACROSS of two HOUSES: the THING for which FARS of both are furthest apart by that of a: the difference without sign * 1000 / FAR of a, cut"
            + " (FARS of a above 0); of several the least.", Terms4Edges::acrossOfSeveral);
        Edge.of(WHERE, "PATH of a to b by r: H of a, if it used RUNGS 0 to r or not and leaned there as b does.", Terms4Edges::pathByRungs);
        Edge.of(WHERE, "STRAIT: the RUNG that the HOUSE USES without which HIGH less LOW is least; of several the least.", Terms4Edges::straitOfSeveral);
        Edge.of(WHERE, "CHANGES: how many YEARS, from 1 on, have another H than the YEAR ahead (one without H is another than one with H).", Terms4Edges::changingYears);
        Edge.of(WHERE, "NEXT: of THINGS without a FAR that are not CAST, that, with which, if its FAR were 1000 * SPEED / H, cut,", Terms4Edges::nextOnes);
        Edge.of(WHERE, "1 at least, 9999999 at most", Terms4Edges::nextFars);
        Edge.of(WHERE, "(RULES throw it not), HIGH less LOW would be least; of several the least.", Terms4Edges::nextOfSeveral);
    }

    private static void sayings() {
        Edge.of(WHERE, "SAYINGS, at most 16, from 0 on:", Terms4Edges::sixteenSayings);
        Edge.of(WHERE, "a HOUSE, a YEAR, from low to high, -999999 .. 999999, low below high.", Terms4Edges::sayingNumbers);
        Edge.of(WHERE, "KEPT by a CATALOGUE: H of that HOUSE by YEAR 99 lies from low to high.", Terms4Edges::keptFromLowToHigh);
        Edge.of(WHERE, "How many are KEPT; WIDER: the least n, 0 .. 1000000,", Terms4Edges::widerRange);
        Edge.of(WHERE, "so that all SAYINGS of HOUSES that have an H by YEAR 99 would be KEPT, if they went from their middle n of 100 as far to both sides:"
            + " 2 * H - low - high, without sign, times 100, is at most n * (high - low).", Terms4Edges::widerForAll);
        Edge.of(WHERE, "UNTIL: the first YEAR, from that of the SAYING on, by which H of its HOUSE does not lie from low to high (or there is none).", Terms4Edges::untilYears);
        Edge.of(WHERE, "BESIDE: a number from low to high, told by none of the RUNGS: how far H by a YEAR lies above high (above 0), below low (below 0), else 0.", Terms4Edges::besides);
    }

    /** Things of these speeds and fars, and a house that sees them. */
    private static LadderSky row(int[] speeds, int[] fars) {
        StringBuilder s = new StringBuilder("base 1000;base 1;");
        for (int v : speeds) {
            s.append(v < 0 ? "toward " : "away ").append(Math.abs(v)).append(';');
        }
        LadderSky x = Due.told(s.toString(), "use 0;use 1;");
        for (int i = 0; i < fars.length; i++) {
            x.has(0, i, fars[i] == 0 ? 1 : 0, Math.max(1, fars[i]), 0);
        }
        return x;
    }

    private static int[] upTo(int n) {
        int[] all = new int[n];
        for (int i = 0; i < n; i++) {
            all[i] = i + 1;
        }
        return all;
    }

    private static void twoToSeven() {
        for (int n = 0; n <= 9; n++) {
            Due.due("chance of " + n + " in order", row(upTo(n), upTo(n)).chance(0, 0, 0), n < 2 || n > 7 ? -1 : 1);
        }
        Due.due("24", row(upTo(24), upTo(24)).chance(0, 0, 0), -1);
        // how many have a far counts, not how many there are
        LadderSky x = row(upTo(9), upTo(9));
        x.cast(0, 8, true);
        Due.due("eight of nine", x.chance(0, 0, 0), -1);
        x.cast(0, 0, true);
        Due.due("seven of nine", x.chance(0, 0, 0), 1);
        Due.due("two of nine", row(upTo(9), upTo(2)).chance(0, 0, 0), 1);
        Due.due("one of nine", row(upTo(9), upTo(1)).chance(0, 0, 0), -1);
        Due.due("asked again it is the same", x.chance(0, 0, 0), 1);
        // the last seven of 24
        LadderSky y = row(upTo(24), new int[] {});
        for (int thing = 17; thing < 24; thing++) {
            y.has(0, thing, 0, thing, 0);
        }
        Due.due("the last seven", y.chance(0, 0, 0), 1);
        Due.due("and again", y.chance(0, 0, 0), 1);
        for (int thing = 17; thing < 22; thing++) {
            y.cast(0, thing, true);
        }
        Due.due("the last two", y.chance(0, 0, 0), 1);
    }

    private static void atLeastAsMuch() {
        int[] fall = {7, 6, 5, 4, 3, 2, 1};
        Due.due("the least of all", row(upTo(7), fall).chance(0, 0, 0), 5040);
        Due.due("two, the greater", row(new int[] {1, 2}, new int[] {1, 2}).chance(0, 0, 0), 1);
        Due.due("two, the less", row(new int[] {1, 2}, new int[] {2, 1}).chance(0, 0, 0), 2);
        // 14 alone, 13 13, 11 11, 10
        Due.due("as much counts: 13", row(new int[] {1, 2, 3}, new int[] {2, 1, 3}).chance(0, 0, 0), 3);
        Due.due("as much counts: 11", row(new int[] {1, 2, 3}, new int[] {2, 3, 1}).chance(0, 0, 0), 5);
        Due.due("toward", row(new int[] {-1, -2}, new int[] {1, 2}).chance(0, 0, 0), 2);
        Due.due("speeds alike", row(new int[] {4, 4, 4}, new int[] {1, 2, 3}).chance(0, 0, 0), 6);
    }

    private static void unlikeThings() {
        Due.due("two of one far", row(new int[] {1, 2}, new int[] {3, 3}).chance(0, 0, 0), 2);
        Due.due("two of three", row(new int[] {1, 2, 3}, new int[] {1, 1, 2}).chance(0, 0, 0), 2);
        Due.due("seven of one", row(upTo(7), new int[] {5, 5, 5, 5, 5, 5, 5}).chance(0, 0, 0), 5040);
        Due.due("fars of 0 are fars", row(new int[] {1, 2}, new int[] {0, 0}).chance(0, 0, 0), 2);
        Due.due("one far of 0", row(new int[] {1, 2}, new int[] {0, 1}).chance(0, 0, 0), 1);
    }

    /** Things with these q of rung 1, for a house that uses rungs 0 and 2. */
    private static LadderSky ratios(int... q) {
        LadderSky x = Due.told("base 1000;base 1000;base 1;" + "away 1;".repeat(q.length), "use 0;use 2;");
        for (int thing = 0; thing < q.length; thing++) {
            x.has(0, thing, q[thing] == 0 ? 2 : 0, Math.max(1, q[thing]), 0);
            x.has(0, thing, 1, 1000, 0);
        }
        return x;
    }

    private static void twoToFourteen() {
        int[] due = {-1, -1, 2, 6, 14, 30, 62, 126, 254, 510, 1022, 2046, 4094, 8190, 16382, -1, -1};
        for (int n = 0; n < due.length; n++) {
            int[] q = new int[n];
            java.util.Arrays.fill(q, 7);
            Due.due("alike of " + n, ratios(q).alike(0, 0, 0, 1), due[n]);
        }
        int[] all = new int[24];
        java.util.Arrays.fill(all, 7);
        Due.due("alike of 24", ratios(all).alike(0, 0, 0, 1), -1);
    }

    private static void setsAsGood() {
        Due.due("one set and what is without", ratios(1, 2, 11, 12).alike(0, 0, 0, 1), 2);
        Due.due("as good: the least or the greatest alone", ratios(1, 2, 3).alike(0, 0, 0, 1), 4);
        Due.due("one apart", ratios(0, 0, 0, 9).alike(0, 0, 0, 1), 2);
        Due.due("as good, of four", ratios(0, 1, 1, 2).alike(0, 0, 0, 1), 4);
        int[] most = new int[14];
        for (int i = 0; i < 14; i++) {
            most[i] = i < 7 ? 1 : 9999;
        }
        Due.due("seven and seven", ratios(most).alike(0, 0, 0, 1), 2);
        most[13] = 1;
        Due.due("eight and six", ratios(most).alike(0, 0, 0, 1), 2);
    }

    private static void heapRange() {
        LadderSky x = ratios(100, 100, 300);
        Due.due("f of 1", x.heaps(0, 0, 0, 1, 1), 0b111);
        Due.due("f of 999", x.heaps(0, 0, 0, 1, 999), 0);
        for (int f : new int[] {0, -1, 1000, Integer.MIN_VALUE, Integer.MAX_VALUE}) {
            Due.due("f of " + f, x.heaps(0, 0, 0, 1, f), -1);
        }
        Due.due("10 times is more than 999 of 100", ratios(100, 100, 1000).heaps(0, 0, 0, 1, 999), 0b100);
        Due.due("999 of 100 is not", ratios(100, 100, 999).heaps(0, 0, 0, 1, 999), 0);
    }

    private static void moreThanTheMiddle() {
        LadderSky x = ratios(30, 10, 20);
        Due.due("as much is not more", x.heaps(0, 0, 0, 1, 100), 0b001);
        Due.due("more than 99 of 100", x.heaps(0, 0, 0, 1, 99), 0b101);
        Due.due("as much as half is not", x.heaps(0, 0, 0, 1, 50), 0b101);
        Due.due("more than 49", x.heaps(0, 0, 0, 1, 49), 0b111);
        Due.due("as much as 150 is not", x.heaps(0, 0, 0, 1, 150), 0);
        // the middle of four is the second, of two the first, of one itself
        Due.due("of four", ratios(40, 30, 20, 10).heaps(0, 0, 0, 1, 100), 0b0011);
        Due.due("of two", ratios(20, 10).heaps(0, 0, 0, 1, 100), 0b01);
        Due.due("of one", ratios(20).heaps(0, 0, 0, 1, 100), 0);
        Due.due("of one, more than 99", ratios(20).heaps(0, 0, 0, 1, 99), 1);
        Due.due("a middle of 0", ratios(0, 0, 1).heaps(0, 0, 0, 1, 999), 0b100);
        int[] all = new int[24];
        java.util.Arrays.fill(all, 7);
        Due.due("24", ratios(all).heaps(0, 0, 0, 1, 99), (1 << 24) - 1);
    }

    private static void middles() {
        Due.due("of one", row(new int[] {10}, new int[] {3}).middle(0, 0, 0), 3333);
        Due.due("of two the first", row(new int[] {20, 10}, new int[] {1, 1}).middle(0, 0, 0), 10000);
        Due.due("of three the second", row(new int[] {30, 10, 20}, new int[] {1, 1, 1}).middle(0, 0, 0), 20000);
        Due.due("of four the second", row(new int[] {40, 30, 20, 10}, new int[] {1, 1, 1, 1}).middle(0, 0, 0), 20000);
        Due.due("fars of 0 are left out", row(new int[] {1, 2, 30}, new int[] {0, 0, 1}).middle(0, 0, 0), 30000);
        Due.due("all of 0", row(new int[] {1, 2}, new int[] {0, 0}).middle(0, 0, 0), NO);
        Due.due("below 0 comes ahead", row(new int[] {-30, 10, -20}, new int[] {1, 1, 1}).middle(0, 0, 0), -20000);
        Due.due("cut toward 0", row(new int[] {-1}, new int[] {1001}).middle(0, 0, 0), 0);
        Due.due("the greatest", row(new int[] {9999}, new int[] {1}).middle(0, 0, 0), 9999000);
        Due.due("the twelfth of 24", row(upTo(24), new int[] {1, 1, 1, 1, 1, 1, 1, 1, 1, 1, 1, 1, 1, 1, 1, 1, 1, 1, 1, 1, 1, 1, 1, 1}).middle(0, 0, 0), 12000);
    }

    private static void acrossOfSeveral() {
        LadderSky x = Due.told("base 1000;base 1000;base 1;away 1;away 1;away 1;has 0 0 10 0;has 1 0 20 0;has 2 0 7 0;has 0 1 12 0;has 1 1 10 0;has 2 1 7 0;has 0 2 5 0;",
            "use 0;", "use 1;", "use 2;", "use 1;cast 1;");
        Due.due("200, 500, 0", x.across(0, 0, 1, 0), 1);
        Due.due("166, 1000, 0", x.across(0, 1, 0, 0), 1);
        Due.due("200, 0", x.across(0, 0, 3, 0), 0);
        Due.due("0, 0, 0", x.across(0, 0, 0, 0), 0);
        Due.due("a far of 0 of b: 1000", x.across(0, 0, 2, 0), 0);
        Due.due("a far of 0 of a", x.across(0, 2, 0, 0), -1);
        // nearer counts as farther does; 333.3 and 333.9 are both cut
        LadderSky y = Due.told("base 1000;base 1000;away 1;away 1;has 0 0 3 0;has 0 1 4 0;has 1 0 9999 0;has 1 1 6660 0;", "use 0;", "use 1;");
        Due.due("both 333", y.across(0, 0, 1, 0), 0);
        y.has(0, 1, 1, 6659, 0);
        Due.due("334", y.across(0, 0, 1, 0), 1);
        // a far of 0 of a beside one above 0
        LadderSky z = Due.told("base 1000;base 1;base 1000;away 1;away 1;has 0 1 1 0;has 0 2 9 0;has 1 0 5 0;has 1 2 5 0;", "use 0;use 1;", "use 2;");
        Due.due("only thing 1", z.across(0, 0, 1, 0), 1);
    }

    private static void pathByRungs() {
        LadderSky x = Due.told("base 1000;base 1000;away 100;away 100;has 0 0 100 0;has 1 1 100 0;", "use 0;use 1;", "use 0;use 1;lean 0 up 1;lean 1 up 1;", "", "use 1;lean 0 up 9;");
        Due.due("to rung 0", x.path(0, 0, 1, 0, 0), 995);
        Due.due("to rung 1", x.path(0, 0, 1, 0, 1), 990);
        Due.due("to itself", x.path(0, 0, 0, 0, 1), 1000);
        Due.due("to none by rung 0", x.path(0, 0, 2, 0, 0), 1000);
        Due.due("to none by rung 1", x.path(0, 0, 2, 0, 1), NO);
        Due.due("from none by rung 0", x.path(0, 2, 0, 0, 0), 1000);
        Due.due("the whole path is as b, but for its rules and way", x.path(0, 0, 3, 0, 1), x.line(0, 3, 0, 1));
        // rules, ways and casts stay those of a
        LadderSky y = Due.told("base 1000;away 100;away 300;has 0 0 100 0;has 1 0 100 0;", "use 0;throw faster 200;", "use 0;cast 0;");
        Due.due("of a", y.path(0, 0, 1, 0, 0), 1000);
        Due.due("of b", y.path(0, 1, 0, 0, 0), 3000);
        // six rungs
        LadderSky z = Due.told("base 1000;base 1000;base 1000;base 1000;base 1000;base 1000;away 100;has 0 5 100 0;", "use 5;", "use 5;lean 5 up 50;");
        Due.due("to rung 4", z.path(0, 0, 1, 0, 4), 1000);
        Due.due("to rung 5", z.path(0, 0, 1, 0, 5), 666);
    }

    private static void straitOfSeveral() {
        LadderSky x = Due.told("base 1000;base 1000;base 1000;away 100;away 200;has 0 0 10 0;has 1 0 20 0;has 0 1 10 0;has 1 1 40 0;",
            "use 0;use 1;", "use 1;use 2;", "use 0;use 1;use 2;", "use 0;", "", "use 0;use 2;");
        int[] due = {1, 2, 1, -1, -1, 2};
        for (int house = 0; house < due.length; house++) {
            Due.due("strait of house " + house, x.strait(0, house, 0), due[house]);
        }
        // leans, casts and rules stay those of the house, whichever was asked or told before
        LadderSky z = Due.told("base 1000;base 1000;away 100;away 200;away 999;has 0 0 10 0;has 1 0 20 0;has 0 1 10 0;has 1 1 40 0;has 2 0 1 0;has 2 1 99 0;",
            "use 0;use 1;lean 1 down 50;cast 2;", "use 1;", "use 0;lean 0 up 50;lean 1 up 50;");
        Due.due("0 without rung 1, 10000 without rung 0", z.strait(0, 0, 0), 1);
        Due.due("of the other", z.strait(0, 1, 0), -1);
        Due.due("again", z.strait(0, 0, 0), 1);
        // a rung that the catalogue has not is none of its rungs
        LadderSky w = Due.told("base 1000;base 1000;away 100;away 200;has 0 0 10 0;has 1 0 20 0;has 0 1 10 0;has 1 1 40 0;", "use 0;use 1;use 2;", "use 2;", "use 0;use 2;");
        Due.due("among rungs 0 and 1", w.strait(0, 0, 0), 1);
        Due.due("rung 2 alone", w.strait(0, 1, 0), -1);
        Due.due("without rung 0 there is no low, and rung 2 is none", w.strait(0, 2, 0), -1);
        // without 1 and without 2 it is as narrow
        LadderSky y = Due.told("base 1000;base 1000;base 1000;away 100;away 200;has 0 0 10 0;has 1 0 30 0;has 0 1 10 0;has 1 1 30 0;has 0 2 10 0;has 1 2 30 0;", "use 0;use 1;use 2;", "use 1;use 2;");
        Due.due("all alike", y.strait(0, 0, 0), 0);
        Due.due("of those used", y.strait(0, 1, 0), 1);
        Due.due("its uses stay", y.of(0, 0), 7);
    }

    private static void changingYears() {
        LadderSky x = Due.told("base 1000;away 100;away 100;away 200;has 0 0 10 0;has 1 0 10 1;has 2 0 10 2;", "use 0;", "");
        Due.due("year 0 is none, year 1 as year 0, year 2 another", x.changes(0, 0), 1);
        Due.due("never an H", x.changes(0, 1), 0);
        LadderSky y = Due.told("base 1000;away 0;has 0 0 1 1;", "use 0;");
        Due.due("an H of 0 is another than none", y.changes(0, 0), 1);
        y.has(0, 0, 0, 1, 0);
        Due.due("from 0 on", y.changes(0, 0), 0);
        y.has(0, 0, 0, 1, 99);
        Due.due("in the last", y.changes(0, 0), 1);
        LadderSky z = Due.told("base 1000;base 1000;base 1000;away 9;has 0 0 9 1;has 0 1 99 5;has 0 2 9 8;", "use 0;use 1;use 2;way last;throw farther 50;");
        Due.due("comes, goes, comes", z.changes(0, 0), 3);
        // one of each year, and each another H
        LadderSky w = Due.told("base 1000;base 1000;base 1000;base 1000;base 1000;base 1000;" + "away 9999;".repeat(24), "use 0;use 1;use 2;use 3;use 4;use 5;way last;");
        for (int year = 0; year < 100; year++) {
            w.has(0, year % 24, year / 24, 100 + year, year);
        }
        Due.due("every year", w.changes(0, 0), 99);
    }

    private static void nextOnes() {
        // 12 at 1 makes 2000, 25 at 2 makes 2500
        LadderSky x = Due.told("base 1000;away 10;away 25;away 12;has 0 0 1 0;", "use 0;", "use 0;cast 2;", "use 0;cast 1;cast 2;", "use 0;cast 0;");
        Due.due("cut: 2, not 3", x.next(0, 0, 0), 2);
        Due.due("not the cast", x.next(0, 1, 0), 1);
        Due.due("all others cast", x.next(0, 2, 0), -1);
        Due.due("no H without the cast", x.next(0, 3, 0), -1);
        // thing 0 may be the one, and each is looked at without those looked at before
        LadderSky y = Due.told("base 1000;away 20;away 10;toward 30;away 29;has 1 0 1 0;", "use 0;", "use 0;cast 0;", "use 0;cast 0;cast 3;");
        Due.due("0, 40000, 4500", y.next(0, 0, 0), 0);
        Due.due("40000, 4500", y.next(0, 1, 0), 3);
        Due.due("40000", y.next(0, 2, 0), 2);
        x.has(0, 2, 0, 1, 5);
        Due.due("ahead of 5", x.next(0, 0, 4), 2);
        Due.due("by 5 it has a far", x.next(0, 0, 5), 1);
        x.has(0, 1, 0, 1, 9);
        Due.due("by 9 all have", x.next(0, 0, 9), -1);
    }

    private static void nextFars() {
        // at 0 or -1 it would leave one H alone, from itself to itself
        LadderSky x = Due.told("base 1000;away 10;away 0;away 25;has 0 0 1 0;", "use 0;");
        Due.due("of a speed of 0 it is 1", x.next(0, 0, 0), 2);
        LadderSky y = Due.told("base 1000;away 10;toward 10;away 25;has 0 0 1 0;", "use 0;");
        Due.due("of one that comes it is 1", y.next(0, 0, 0), 2);
        // H of 1: 9999000 is the most that can be
        LadderSky z = Due.told("base 1000;away 1;away 9999;away 1;has 0 0 1000 0;", "use 0;");
        Due.due("H", z.line(0, 0, 0, 1), 1);
        Due.due("as far as that", z.next(0, 0, 0), 1);
        // an H below 0: what comes is far off
        LadderSky w = Due.told("base 1000;toward 10;away 25;toward 25;has 0 0 1 0;", "use 0;");
        Due.due("-10 by 1", w.line(0, 0, 0, 1), -10000);
        Due.due("the one that comes", w.next(0, 0, 0), 2);
    }

    private static void nextOfSeveral() {
        LadderSky x = Due.told("base 1000;away 10;away 20;away 30;has 0 0 1 0;", "use 0;", "use 0;throw faster 15;", "use 0;throw farther 1;");
        for (int house = 0; house < 3; house++) {
            Due.due("all as narrow, by house " + house, x.next(0, house, 0), 1);
        }
        // thrown ones have no far either
        LadderSky y = Due.told("base 1000;away 10;away 20;away 31;has 0 0 1 0;has 1 0 9 0;", "use 0;throw farther 5;", "use 0;throw farther 5;cast 1;");
        Due.due("a thrown one", y.next(0, 0, 0), 1);
        Due.due("not a cast one", y.next(0, 1, 0), 2);
        Due.due("the line is as it was", y.line(0, 0, 0, 0), 1);
    }

    private static void sixteenSayings() {
        LadderSky x = Due.told("", "");
        for (int i = 0; i < 16; i++) {
            Due.due("saying " + i, x.say(0, i, i, i + 1), i);
        }
        Due.due("a 17th", x.say(0, 0, 0, 1), -1);
        Due.due("sixteen", x.count(3), 16);
        Due.due("until of 0", x.kept(0, 30), 0);
        Due.due("until of 15", x.kept(0, 45), 15);
    }

    private static void sayingNumbers() {
        LadderSky x = Due.told("", "");
        int[][] wrong = {{1, 0, 1, 2}, {-1, 0, 1, 2}, {0, -1, 1, 2}, {0, 100, 1, 2}, {0, 0, -1000000, 2}, {0, 0, 1, 1000000}, {0, 0, 5, 5}, {0, 0, 6, 5},
            {0, 0, -1000000, 1000000}, {0, 0, 1000000, 1000001}, {0, 0, -1000001, -1000000}, {0, 0, Integer.MIN_VALUE, Integer.MAX_VALUE}};
        for (int[] w : wrong) {
            Due.due("say " + java.util.Arrays.toString(w), x.say(w[0], w[1], w[2], w[3]), -1);
        }
        Due.due("none was said", x.count(3), 0);
        int[][] right = {{0, 0, -999999, 999999}, {0, 99, 999998, 999999}, {0, 50, -999999, -999998}, {0, 1, 0, 1}};
        for (int i = 0; i < right.length; i++) {
            Due.due("say " + java.util.Arrays.toString(right[i]), x.say(right[i][0], right[i][1], right[i][2], right[i][3]), i);
        }
    }

    private static LadderSky of9000() {
        return Due.told("base 1000;away 90;has 0 0 10 99;", "use 0;", "");
    }

    private static void keptFromLowToHigh() {
        int[][] due = {{9000, 9001, 1}, {8999, 9000, 1}, {9001, 9002, 0}, {8998, 8999, 0}, {-999999, 999999, 1}};
        for (int[] d : due) {
            LadderSky x = of9000();
            // the year of the saying does not matter, nor that there is no H ahead of 99
            x.say(0, 3, d[0], d[1]);
            Due.due("kept from " + d[0] + " to " + d[1], x.kept(0, 10), d[2]);
            Due.due("how many", x.kept(0, 0), d[2]);
        }
        LadderSky y = of9000();
        y.say(1, 3, -999999, 999999);
        Due.due("without H it is not kept", y.kept(0, 10), 0);
        // H of 0 is from low to high where low is 0
        LadderSky z = Due.told("base 1000;away 0;has 0 0 1 0;", "use 0;");
        z.say(0, 0, 0, 1);
        z.say(0, 0, -1, 0);
        z.say(0, 0, 1, 2);
        Due.due("0 to 1 and -1 to 0", z.kept(0, 0), 2);
    }

    private static int wider(int low, int high) {
        LadderSky x = of9000();
        x.say(0, 0, low, high);
        return x.kept(0, 2);
    }

    private static void widerRange() {
        Due.due("the middle itself", wider(8000, 10000), 0);
        Due.due("1 of 2001 beside", wider(8000, 10001), 1);
        Due.due("at its end", wider(9000, 10000), 100);
        Due.due("just out of it", wider(9001, 10000), 101);
        // 20000 * 100 by 2
        Due.due("1000000", wider(-1001, -999), 1000000);
        Due.due("1000100", wider(-1002, -1000), -1);
        Due.due("at 1 wide: 9999 * 100", wider(4000, 4001), 999900);
        Due.due("at 1 wide: 10001 * 100", wider(3999, 4000), -1);
        // 101000100 by 101 is just above 1000000, 100999900 by 101 just below
        LadderSky y = Due.told("base 1000;away 505;has 0 0 1 0;", "use 0;");
        y.image(0);
        y.say(0, 0, -51, 50);
        Due.due("1000001", y.kept(0, 2), -1);
        y.again(0);
        y.say(0, 0, -50, 51);
        Due.due("1000000 is wide enough", y.kept(0, 2), 1000000);
        LadderSky x = of9000();
        Due.due("without sayings", x.kept(0, 2), 0);
        Due.due("none kept", x.kept(0, 0), 0);
    }

    private static void widerForAll() {
        LadderSky x = of9000();
        x.say(1, 0, 1, 2);
        Due.due("of a house without H it is free", x.kept(0, 2), 0);
        x.say(0, 0, 9000, 10000);
        Due.due("100", x.kept(0, 2), 100);
        x.say(0, 0, 8000, 10000);
        Due.due("the greater", x.kept(0, 2), 100);
        x.say(0, 0, 9001, 9002);
        Due.due("300", x.kept(0, 2), 300);
        x.say(0, 0, -1002, -1000);
        Due.due("none is wide enough for all", x.kept(0, 2), -1);
        Due.due("with an H", x.kept(0, 1), 4);
        Due.due("from above as from below", wider(8998, 8999), 300);
        Due.due("just wide enough: 2 * 100 by 200", wider(8899, 9099), 1);
        Due.due("just not: 3 * 100 by 199", wider(8899, 9098), 2);
    }

    private static void untilYears() {
        // none to 9, 10000 to 39, 9000 from then on
        LadderSky x = Due.told("base 1000;away 100;away 80;has 0 0 10 10;has 1 0 10 40;", "use 0;", "");
        int[][] due = {{0, 0, 9000, 10000, 0}, {0, 9, 9000, 10000, 9}, {0, 10, 9000, 10000, -1}, {0, 10, 9001, 10000, 40}, {0, 10, 9000, 9999, 10}, {0, 39, 10000, 10001, 40},
            {0, 40, 8999, 9000, -1}, {0, 99, 8999, 9000, -1}, {0, 99, 9001, 9002, 99}, {1, 0, 1, 2, 0}, {1, 99, 1, 2, 99}};
        for (int k = 0; k < due.length; k++) {
            x.say(due[k][0], due[k][1], due[k][2], due[k][3]);
            Due.due("until " + java.util.Arrays.toString(due[k]), x.kept(0, 30 + k), due[k][4]);
        }
    }

    private static void besides() {
        LadderSky x = of9000();
        int[][] due = {{0, 8999, 1}, {0, 9000, 0}, {9000, 9000, 0}, {9000, 9001, 0}, {9001, 9001, -1}, {-5, -5, 9005}, {18000, 18000, -9000}};
        for (int[] d : due) {
            Due.due("beside " + d[0] + " to " + d[1], x.beside(0, 0, 99, d[0], d[1]), d[2]);
        }
        Due.due("as far above as may be", x.beside(0, 0, 99, Integer.MIN_VALUE, Integer.MIN_VALUE), 9000L + 2147483648L);
        Due.due("as far below as may be", x.beside(0, 0, 99, Integer.MAX_VALUE, Integer.MAX_VALUE), 9000L - 2147483647L);
        Due.due("between all", x.beside(0, 0, 99, Integer.MIN_VALUE, Integer.MAX_VALUE), 0);
    }
}
