/** Boundary sentences of Terms 3: two houses, years, two sorts, skies and what is made of them. */
final class Terms3Edges {
    private static final String WHERE = "Terms 3";
    private static final long NO = Edge.NO;

    private Terms3Edges() {
    }

    static void all() {
        Edge.of(WHERE, "PART of two HOUSES, a and b: the RUNG for which H of a, if it used it or not and leaned there as b does,"
            + " lies furthest from H of a; of several the least.", Terms3Edges::partOfSeveral);
        Edge.of(WHERE, "AGREE: LOW of each is HIGH of the other at most.", Terms3Edges::touching);
        Edge.of(WHERE, "SINCE: the first YEAR by which there is an H.", Terms3Edges::firstYear);
        Edge.of(WHERE, "STANDS by p of 100: the first YEAR from which on, to 99, there is an H and H - that by YEAR 99, without its sign,"
            + " is at most p of 100 of that, cut.", Terms3Edges::standing);
        sorts();
        skies();
    }

    private static void sorts() {
        Edge.of(WHERE, "SORTS of a RUNG: of THINGS with an ENTRY by it that have a FAR by other RUNGS that the HOUSE USES (as first, ahead of RULES),", Terms3Edges::whoIsSorted);
        Edge.of(WHERE, "q is 1000 * FAR / RAW, 999999 at most;", Terms3Edges::greatestRatio);
        Edge.of(WHERE, "they are put in order by q, of several the least THING first;", Terms3Edges::orderOfThings);
        Edge.of(WHERE, "that k, 1 .. n - 1, so that the first k and the others, each with the mean of its q (not cut), spread least (squares together); of several the least.",
            Terms3Edges::bestSplit);
    }

    private static void skies() {
        Edge.of(WHERE, "Of a SKY: SEEN at d, 1 .. 200:", Terms3Edges::seenRange);
        Edge.of(WHERE, "LIGHTS with 10000 * bright at least LIMIT * d * d.", Terms3Edges::justSeen);
        Edge.of(WHERE, "CHOSEN: the mean brightness of those SEEN (by how many they are) by that of all, in least terms.", Terms3Edges::leastTerms);
        Edge.of(WHERE, "IN ALL to d, 1 .. 60: likewise, of all e from 1 to d, each e * e times as many.", Terms3Edges::inAllRange);
        Edge.of(WHERE, "A CATALOGUE is MADE of a SKY by a SEED: x; a number below n is drawn: x becomes x * 1103515245 + 12345 (of 32 bits),"
            + " it is x shifted right by 16 without sign, remainder by n.", Terms3Edges::drawing);
        Edge.of(WHERE, "For each of TRIES: far, 1 more than a number below 200; a LIGHT by a number below how many all are (they lie one behind the other);"
            + " own, a number below 2 * OWN + 1, less OWN; err, a number below 2 * ERR + 1, less ERR.", Terms3Edges::triesAndDraws);
        Edge.of(WHERE, "If the LIGHT is SEEN so far off by the LIMIT, it is a THING with SPEED H0 * far / 100 + own (9999 at most without sign),", Terms3Edges::madeSpeeds);
        Edge.of(WHERE, "with an ENTRY by RUNG 0 (a base of 1000) of far, if far is below 50,", Terms3Edges::nearEntries);
        Edge.of(WHERE, "and one by RUNG 1, which stands ON it, of 2 * far * (100 + err) / 100, 1 at least; all known since YEAR 0.", Terms3Edges::farEntries);
        Edge.of(WHERE, "WORLDS: of n CATALOGUES so made, by SEED, SEED + 1, .., by a HOUSE and YEAR 0: how many have an H (what 0),"
            + " these together, by how many they are, cut (1), how many have a LOW and 10 * H0 from LOW to HIGH (2).", Terms3Edges::manyWorlds);
    }

    private static void partOfSeveral() {
        String text = "base 1000;base 1000;base 1000;away 100;away 100;has 0 0 100 0;has 1 1 100 0;has 1 2 50 0;";
        LadderSky x = Due.told(text, "use 0;use 1;", "use 0;use 1;lean 0 up 1;lean 1 up 1;", "use 0;use 1;lean 1 up 1;", "use 0;use 1;lean 0 up 1;lean 1 down 2;", "use 2;", "");
        Due.due("with itself", x.part(0, 0, 0, 0), 0);
        Due.due("5 and 5", x.part(0, 0, 1, 0), 0);
        Due.due("0 and 5", x.part(0, 0, 2, 0), 1);
        Due.due("less by 5, more by 9", x.part(0, 0, 3, 0), 1);
        Due.due("1000 without rung 0, without rung 1 and with rung 2", x.part(0, 0, 4, 0), 0);
        Due.due("from 2000: 1200 with rung 0, 1000 with rung 1", x.part(0, 4, 0, 0), 1);
        Due.due("no H of a", x.part(0, 5, 0, 0), -1);
        // one by which there is no H is none
        LadderSky y = Due.told("base 1000;base 1000;away 100;has 0 0 100 0;", "use 0;", "");
        Due.due("without rung 0 there is no H", y.part(0, 0, 1, 0), 1);
    }

    private static void touching() {
        LadderSky x = Due.told("base 1000;base 1000;away 1000;away 2000;has 0 0 100 0;has 1 0 100 0;has 0 1 200 0;has 1 1 200 0;", "use 0;", "use 1;", "use 1;lean 1 up 1;", "use 1;lean 1 down 1;");
        Due.due("low of a", x.span(0, 0, 0, false), 10000);
        Due.due("high of b", x.span(0, 1, 0, true), 10000);
        Due.due("they touch", x.agree(0, 0, 1, 0), true);
        Due.due("either way", x.agree(0, 1, 0, 0), true);
        Due.due("9900 is below 10000", x.agree(0, 0, 2, 0), false);
        Due.due("either way", x.agree(0, 2, 0, 0), false);
        Due.due("10101 is above 10000", x.agree(0, 0, 3, 0), true);
        Due.due("either way", x.agree(0, 3, 0, 0), true);
        Due.due("with itself", x.agree(0, 0, 0, 0), true);
        // one within the other
        LadderSky y = Due.told("base 1000;base 1000;away 10;away 20;has 0 0 1 0;has 1 0 1 0;has 0 1 1 0;has 1 1 2 0;", "use 0;", "use 1;");
        Due.due("from 10000 to 10000 within 10000 to 20000", y.agree(0, 0, 1, 0), true);
    }

    private static void firstYear() {
        for (int year : new int[] {0, 1, 50, 98, 99}) {
            LadderSky x = Due.told("base 1000;away 1;has 0 0 1 " + year + ";", "use 0;");
            Due.due("since " + year, x.since(0, 0), year);
        }
        LadderSky y = Due.told("base 1000;base 1;away 1;away 1;has 0 1 1 3;has 1 0 1 5;", "use 0;use 1;", "use 1;", "use 2;");
        Due.due("a far of 0 is no H", y.since(0, 0), 5);
        Due.due("by none", y.since(0, 1), -1);
        Due.due("no rung", y.since(0, 2), -1);
        Due.due("of no things", Due.told("", "").since(0, 0), -1);
        // one that goes away again
        LadderSky z = Due.told("base 1000;base 1000;away 1;has 0 0 9 4;has 0 1 99 6;", "use 0;use 1;way last;throw farther 50;");
        Due.due("the first", z.since(0, 0), 4);
    }

    private static void standing() {
        LadderSky x = Due.told("base 1000;base 1000;base 1000;away 210;has 0 0 20 0;has 0 1 21 5;", "use 0;use 1;use 2;way last;");
        Due.due("10500, then 10000: by 5", x.stands(0, 0, 5), 0);
        Due.due("by 4", x.stands(0, 0, 4), 5);
        Due.due("by 0", x.stands(0, 0, 0), 5);
        Due.due("by 100", x.stands(0, 0, 100), 0);
        x.has(0, 0, 2, 20, 99);
        Due.due("10500 at the last: by 0", x.stands(0, 0, 0), 99);
        Due.due("500 is at most 4 of 100 of 10500? no, 420", x.stands(0, 0, 4), 99);
        Due.due("by 5, 525", x.stands(0, 0, 5), 0);
        // 10504, then 10000
        LadderSky v = Due.told("base 1000;base 1000;away 9990;has 0 0 951 0;has 0 1 999 5;", "use 0;use 1;way last;");
        Due.due("504 is more than 5 of 100", v.stands(0, 0, 5), 5);
        Due.due("504 is less than 6 of 100", v.stands(0, 0, 6), 0);
        // an H that is gone for a while
        LadderSky y = Due.told("base 1000;base 1000;base 1000;away 9;has 0 0 9 1;has 0 1 99 5;has 0 2 9 8;", "use 0;use 1;use 2;way last;throw farther 50;");
        Due.due("from 8 on", y.stands(0, 0, 100), 8);
        // an H of 0 stands by itself alone
        LadderSky z = Due.told("base 1000;away 5;toward 5;has 0 0 1 2;has 1 0 1 6;", "use 0;");
        Due.due("0", z.line(0, 0, 99, 1), 0);
        Due.due("100 of 100 of 0", z.stands(0, 0, 100), 6);
        // below 0 as above
        LadderSky w = Due.told("base 1000;base 1000;toward 210;has 0 0 20 0;has 0 1 21 5;", "use 0;use 1;way last;");
        Due.due("-10500, then -10000: by 5", w.stands(0, 0, 5), 0);
        Due.due("by 4", w.stands(0, 0, 4), 5);
    }

    private static void whoIsSorted() {
        String text = "base 1000;base 1000;base 1000;away 1;away 2;away 3;has 0 0 5 0;has 0 1 5 0;has 1 0 5 0;has 2 1 5 0;has 1 2 6 3;";
        LadderSky x = Due.told(text, "use 0;use 1;", "use 1;", "use 0;", "use 0;use 1;use 2;way last;throw faster 0;", "use 1;cast 0;", "");
        int[][] due = {{0, 0, 0, 1}, {0, 0, 1, 1}, {1, 0, 0, 1}, {1, 0, 1, 0}, {2, 0, 0, 0}, {2, 0, 1, 1}, {3, 0, 0, 1}, {3, 2, 0, 1}, {3, 3, 0, 2}, {4, 0, 0, 0}, {5, 0, 0, 0}};
        for (int[] d : due) {
            Due.due("n of house " + d[0] + " by year " + d[1] + " of rung " + d[2], x.sorts(0, d[0], d[1], d[2], 1), d[3]);
        }
        // as first, whatever the way is: 8 by rung 0 of step 0, not 6 by rung 1
        LadderSky y = Due.told("base 1000;on 0;base 1000;away 1;away 1;has 0 0 8 0;has 0 1 4 0;has 0 2 4 0;has 1 0 2 0;has 1 1 4 0;has 1 2 4 0;", "use 0;use 1;use 2;way last;", "use 0;use 1;way mean;");
        for (int house = 0; house < 2; house++) {
            Due.due("2 by 4", y.sorts(0, house, 0, 2, 2), 500);
            Due.due("8 by 4", y.sorts(0, house, 0, 2, 3), 2000);
        }
    }

    private static void greatestRatio() {
        LadderSky x = Due.told("base 1000;base 1000;away 1;away 1;has 0 0 1000 0;has 0 1 1 0;has 1 0 9999 0;has 1 1 10 0;", "use 0;");
        Due.due("999900", x.sorts(0, 0, 0, 1, 2), 999900);
        Due.due("1000000 is too much", x.sorts(0, 0, 0, 1, 3), 999999);
        x.has(0, 1, 0, 9999, 0);
        x.has(0, 1, 1, 1, 0);
        Due.due("9999000 is as much", x.sorts(0, 0, 0, 1, 2), 999999);
        Due.due("thing 0 first then", x.sorts(0, 0, 0, 1, 10), 0);
        x.has(0, 1, 0, 1, 0);
        x.has(0, 1, 1, 1001, 0);
        Due.due("1000 by 1001", x.sorts(0, 0, 0, 1, 2), 0);
    }

    private static void orderOfThings() {
        LadderSky x = Due.told("base 1000;base 1000;away 1;away 1;away 1;away 1;has 0 0 4 0;has 1 0 2 0;has 2 0 4 0;has 3 0 2 0;has 0 1 1 0;has 1 1 1 0;has 2 1 1 0;has 3 1 1 0;", "use 0;");
        int[] due = {1, 3, 0, 2, -1};
        for (int i = 0; i < due.length; i++) {
            Due.due("in order " + i, x.sorts(0, 0, 0, 1, 10 + i), due[i]);
        }
    }

    /** Things with these q of rung 1, as raws by rung 0 against raws of 1000 by rung 1. */
    private static LadderSky ratios(int... q) {
        LadderSky x = Due.told("base 1000;base 1000;base 1;" + "away 1;".repeat(q.length), "use 0;use 2;");
        for (int thing = 0; thing < q.length; thing++) {
            if (q[thing] == 0) {
                x.has(0, thing, 2, 1, 0);
            } else {
                x.has(0, thing, 0, q[thing], 0);
            }
            x.has(0, thing, 1, 1000, 0);
        }
        return x;
    }

    private static void bestSplit() {
        int[][][] due = {{{5, 9}, {1}}, {{7, 7}, {1}}, {{0, 9, 9}, {1}}, {{0, 0, 9}, {2}}, {{0, 0, 0, 9}, {3}}, {{0, 9, 9, 9}, {1}}, {{1, 2, 3}, {1}}, {{1, 2, 3, 4}, {2}},
            {{5, 5, 5, 5}, {1}}, {{0, 0, 1, 3}, {3}}, {{0, 2, 3, 3, 3, 3}, {1}}, {{0, 1, 2, 3, 4}, {2}}, {{0, 1, 2, 4}, {3}}, {{0, 2, 3, 4}, {1}},
            {{3, 5, 6, 7}, {1}}, {{2, 2, 2, 3}, {3}}};
        for (int[][] d : due) {
            LadderSky x = ratios(d[0]);
            Due.due("n of " + java.util.Arrays.toString(d[0]), x.sorts(0, 0, 0, 1, 1), d[0].length);
            Due.due("k of " + java.util.Arrays.toString(d[0]), x.sorts(0, 0, 0, 1, 0), d[1][0]);
        }
        int[] many = new int[24];
        java.util.Arrays.fill(many, 3);
        many[5] = 9;
        Due.due("k of 24, one apart", ratios(many).sorts(0, 0, 0, 1, 0), 23);
        Due.due("no k of one", ratios(5).sorts(0, 0, 0, 1, 0), -1);
        Due.due("no k of none", ratios().sorts(0, 0, 0, 1, 0), -1);
    }

    private static void seenRange() {
        LadderSky x = Edge.sky("light 999 2;");
        Due.due("at 1", x.seen(0, 1), 2);
        Due.due("at 200", x.seen(0, 200), 2);
        for (int far : new int[] {0, -1, 201, 400, Integer.MIN_VALUE, Integer.MAX_VALUE}) {
            Due.due("at " + far, x.seen(0, far), -1);
            Due.due("chosen at " + far, x.chosen(0, far, false, false), -1);
        }
        Due.due("chosen at 1", x.chosen(0, 1, false, false), 1);
        Due.due("chosen at 200", x.chosen(0, 200, false, true), 1);
    }

    private static void justSeen() {
        LadderSky x = Edge.sky("light 1 3;light 4 2;limit 100;");
        int[][] due = {{1, 5}, {10, 5}, {11, 2}, {20, 2}, {21, 0}, {200, 0}};
        for (int[] d : due) {
            Due.due("seen at " + d[0], x.seen(0, d[0]), d[1]);
        }
        LadderSky y = Edge.sky("light 4 1;light 3 9;limit 1;");
        Due.due("40000 at 200", y.seen(0, 200), 1);
        Due.due("29929 at 173", y.seen(0, 173), 10);
        Due.due("30276 at 174", y.seen(0, 174), 1);
        // 80001 against 80000
        Due.due("just not", Edge.sky("light 8 1;limit 8889;").seen(0, 3), 0);
        Due.due("just", Edge.sky("light 8 1;limit 8888;").seen(0, 3), 1);
        LadderSky z = Edge.sky("light 1 1;light 999 1;limit 9999;");
        Due.due("9999 at 1", z.seen(0, 1), 2);
        Due.due("39996 at 2", z.seen(0, 2), 1);
        Due.due("9609039 at 31", z.seen(0, 31), 1);
        Due.due("10238976 at 32", z.seen(0, 32), 0);
    }

    private static void leastTerms() {
        LadderSky x = Edge.sky("light 100 1;light 1 3;limit 100;");
        Due.due("all are seen, above", x.chosen(0, 10, false, false), 1);
        Due.due("all are seen, below", x.chosen(0, 10, false, true), 1);
        Due.due("100 by 103 by 4, above", x.chosen(0, 11, false, false), 400);
        Due.due("100 by 103 by 4, below", x.chosen(0, 11, false, true), 103);
        Due.due("none is seen, above", x.chosen(0, 101, false, false), -1);
        Due.due("none is seen, below", x.chosen(0, 101, false, true), -1);
        // 6 by (6 + 3 * 2) by 4, which is 6 by 3
        LadderSky y = Edge.sky("light 6 1;light 2 3;limit 100;");
        Due.due("2, above", y.chosen(0, 24, false, false), 2);
        Due.due("1, below", y.chosen(0, 24, false, true), 1);
        // two sorts as bright are told apart, but count alike
        LadderSky z = Edge.sky("light 9 9;light 9 9;light 999 9;light 1 1;limit 400;");
        long above = (18L * 9 + 9 * 999) * 28;
        long below = 27L * 9154;
        Due.due("all but the faintest are seen", z.seen(0, 6), 27);
        Due.due("above", z.chosen(0, 6, false, false), above / gcd(above, below));
        Due.due("below", z.chosen(0, 6, false, true), below / gcd(above, below));
    }

    private static long gcd(long a, long b) {
        return b == 0 ? a : gcd(b, a % b);
    }

    private static void inAllRange() {
        LadderSky x = Edge.sky("light 100 1;light 1 3;limit 100;");
        Due.due("to 1", x.chosen(0, 1, true, false), 1);
        // to 11: 385 * 4 + 121 are seen, with 385 * 103 + 12100 of brightness
        Due.due("to 11, above", x.chosen(0, 11, true, false), 51755L * 4 / 11);
        Due.due("to 11, below", x.chosen(0, 11, true, true), 1661L * 103 / 11);
        // to 60: 73810 of the bright one and 385 * 3 of the others
        long above = (73810L * 100 + 385 * 3) * 4;
        long below = (73810L + 385 * 3) * 103;
        Due.due("to 60, above", x.chosen(0, 60, true, false), above / gcd(above, below));
        Due.due("to 60, below", x.chosen(0, 60, true, true), below / gcd(above, below));
        for (int far : new int[] {0, -1, 61, 100, 200, 201, Integer.MIN_VALUE, Integer.MAX_VALUE}) {
            Due.due("to " + far, x.chosen(0, far, true, false), -1);
            Due.due("to " + far + ", below", x.chosen(0, far, true, true), -1);
        }
        Due.due("at 61 there is one", x.chosen(0, 61, false, false), 400);
        // seen at 1 alone, and so in all to 60, too
        LadderSky y = Edge.sky("light 1 1;light 2 1;limit 9999;");
        Due.due("at 2 none", y.chosen(0, 2, false, false), -1);
        Due.due("to 2 those of 1", y.chosen(0, 2, true, false), 1);
        Due.due("to 60 those of 1", y.chosen(0, 60, true, true), 1);
        // no limit can hide even the faintest at 1
        Due.due("to 1", Edge.sky("light 1 1;limit 9999;").chosen(0, 1, true, true), 1);
    }

    private static void drawing() {
        MadeSky sky = new MadeSky(new int[][] {{300, 2}, {20, 3}}, 150, 40, 20, 30, 24);
        for (int seed : new int[] {0, 1, -1, 12345, -12345, 65535, 65536, Integer.MAX_VALUE, Integer.MIN_VALUE, Integer.MAX_VALUE - 1, 0x80000001, 1103515245}) {
            sky.holds(seed);
        }
        // the first number of 32 bits above the sign: x is shifted without it
        int high = 0;
        for (int seed = 0; seed < 40; seed++) {
            high += (seed * 1103515245 + 12345) < 0 ? 1 : 0;
            sky.holds(seed);
        }
        Due.due("some lie above the sign", high > 5, true);
    }

    private static void triesAndDraws() {
        for (int tries : new int[] {1, 2, 23, 24}) {
            MadeSky sky = new MadeSky(new int[][] {{999, 1}}, 100, 0, 0, 1, tries);
            for (int seed = 0; seed < 5; seed++) {
                sky.holds(seed);
                Due.due("all of " + tries + " are seen", sky.things(seed), tries);
            }
        }
        MadeSky wide = new MadeSky(new int[][] {{999, 1}, {1, 9}, {500, 1}}, 1000, 3, 2, 1, 24);
        for (int seed = 0; seed < 80; seed++) {
            wide.holds(seed);
        }
        int[][] due = {{0, 1, 200}, {1, 0, 10}, {2, -3, 3}, {3, -2, 2}};
        for (int[] d : due) {
            Due.due("the least drawn, " + d[0], wide.least(d[0]), d[1]);
            Due.due("the greatest drawn, " + d[0], wide.greatest(d[0]), d[2]);
        }
        // nothing to draw from: own and err are 0
        MadeSky bare = new MadeSky(new int[][] {{5, 1}}, 7, 0, 0, 50, 24);
        for (int seed = -3; seed < 3; seed++) {
            bare.holds(seed);
        }
    }

    private static void madeSpeeds() {
        MadeSky faint = new MadeSky(new int[][] {{4, 1}, {1, 1}}, 1000, 0, 0, 4, 24);
        for (int seed = 0; seed < 60; seed++) {
            faint.holds(seed);
        }
        // 4 is seen to 100 and 1 to 50
        Due.due("the fastest of them, of 100 at most", faint.fastest() <= 1000, true);
        MadeSky fast = new MadeSky(new int[][] {{999, 1}}, 1000, 999, 0, 1, 24);
        for (int seed = 0; seed < 400; seed++) {
            fast.holds(seed);
        }
        Due.due("no speed can be above 2000 and 999", fast.fastest() <= 2999 && fast.fastest() > 2900, true);
        MadeSky still = new MadeSky(new int[][] {{999, 1}}, 0, 999, 0, 1, 24);
        for (int seed = 0; seed < 5; seed++) {
            still.holds(seed);
        }
    }

    private static void nearEntries() {
        boolean[] seen = new boolean[201];
        for (int seed = 0; seed < 100; seed++) {
            LadderSky x = Edge.sky("light 999 1;speed 100;");
            x.make(0, -1, seed);
            Due.due("a base of 1000", x.about(0, 10), 1100);
            for (int thing = 0; thing < 24; thing++) {
                // without own the speed tells how far it is, without err rung 1 does so, too
                int far = x.speed(0, thing);
                seen[far] = true;
                Due.due("raw by rung 0 at " + far, x.entry(0, thing, 0, false), far < 50 ? far : -1);
                Due.due("year by rung 0 at " + far, x.entry(0, thing, 0, true), far < 50 ? 0 : -1);
                Due.due("raw by rung 1 at " + far, x.entry(0, thing, 1, false), 2 * far);
            }
        }
        for (int far : new int[] {1, 49, 50, 200}) {
            Due.due("there was one at " + far, seen[far], true);
        }
    }

    private static void farEntries() {
        MadeSky sky = new MadeSky(new int[][] {{999, 1}}, 100, 0, 50, 1, 24);
        // 2 less 50 of 100 is 1, the least that can be
        int[][] due = {{1, -50}, {1, 49}, {1, 50}, {200, -50}, {200, 50}};
        for (int[] d : due) {
            int seed = sky.seedFor(d[0], d[1]);
            Due.due("there is a seed for " + d[0] + " and " + d[1], seed >= 0, true);
            sky.holds(seed);
        }
        Due.due("the least raw", sky.leastRaw(), 1);
        LadderSky x = Edge.sky("light 999 1;");
        x.make(0, -1, 5);
        Due.due("it stands on rung 0", x.about(0, 11), 0);
        Due.due("two rungs", x.about(0, 0), 2);
        Due.due("known since 0", x.entry(0, 0, 1, true), 0);
    }

    private static void manyWorlds() {
        for (int seed : new int[] {0, 100, -10, Integer.MAX_VALUE - 3, Integer.MAX_VALUE, Integer.MIN_VALUE}) {
            for (int n : new int[] {1, 2, 7, 20}) {
                worlds(seed, n);
            }
        }
        // of a house that uses nothing none has an H
        LadderSky x = Edge.sky("light 999 1;speed 100;own 60;tries 3;");
        Due.tell(x, 1, -1, "use 0;");
        Due.tell(x, 1, -1, "");
        Due.due("none", x.worlds(0, 1, 5, 20, 0), 0);
        Due.due("nothing together", x.worlds(0, 1, 5, 20, 1), -1);
        Due.due("none hit", x.worlds(0, 1, 5, 20, 2), 0);
        // without own each LOW and HIGH is 10 * H0 just
        LadderSky y = Edge.sky("light 999 1;speed 100;");
        Due.tell(y, 1, -1, "use 0;");
        Due.due("all hit", y.worlds(0, 0, 100, 10, 2), 10);
        Due.due("1000 together", y.worlds(0, 0, 100, 10, 1), 1000);
    }

    private static void worlds(int seed, int n) {
        LadderSky x = Edge.sky("light 999 1;speed 100;own 60;tries 3;");
        Due.tell(x, 1, -1, "use 0;");
        int lined = 0;
        int hit = 0;
        long together = 0;
        for (int i = 0; i < n; i++) {
            x.make(0, x.count(0) == 0 ? -1 : 0, seed + i);
            long h = x.line(0, 0, 0, 1);
            long low = x.span(0, 0, 0, false);
            lined += h == NO ? 0 : 1;
            together += h == NO ? 0 : h;
            hit += low != NO && low <= 1000 && x.span(0, 0, 0, true) >= 1000 ? 1 : 0;
        }
        String name = " of " + n + " worlds from " + seed;
        Due.due("how many" + name, x.worlds(0, 0, seed, n, 0), lined);
        Due.due("together" + name, x.worlds(0, 0, seed, n, 1), lined == 0 ? -1 : together / lined);
        Due.due("hit" + name, x.worlds(0, 0, seed, n, 2), hit);
    }
}
