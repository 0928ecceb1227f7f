/** Boundary sentences of Terms 2: the ladder, the fars, rules, the line, ages, leans. */
final class Terms2Edges {
    private static final String WHERE = "Terms 2";
    private static final long NO = Edge.NO;

    private Terms2Edges() {
    }

    static void all() {
        ladder();
        line();
        Edge.of(WHERE, "AGE: 100000000 / H, if H is above 0.", Terms2Edges::ages);
        Edge.of(WHERE, "BARRED: STONES (bits) that are older.", Terms2Edges::olderStones);
        Edge.of(WHERE, "UP of a RUNG: H with 1 more of its LEAN (51 is 51) less H.", Terms2Edges::oneMore);
        Edge.of(WHERE, "WORST: the RUNG with the greatest UP without its sign; of several the least.", Terms2Edges::worstOfSeveral);
    }

    private static void ladder() {
        Edge.plain(WHERE, "Of a CATALOGUE, a HOUSE and a YEAR");
        Edge.of(WHERE, "(ENTRIES known since later ones are none;", Terms2Edges::laterEntries);
        Edge.of(WHERE, "all divisions cut, toward 0):", Terms2Edges::cuts);
        Edge.plain(WHERE, "LADDER: RUNGS one by one. Of a base S is its SCALE.");
        Edge.of(WHERE, "Of one ON another: of THINGS that have ENTRIES of both and are not CAST, 1000 * (their FARS by the other, together)"
            + " / (their RAWS by this one, together);", Terms2Edges::bothEntries);
        Edge.of(WHERE, "it has no S, if there are none, or the other has none.", Terms2Edges::noScale);
        Edge.of(WHERE, "The RUNG's S is that, times 100 and its LEAN, by 100, 9999999 at most.", Terms2Edges::greatestScale);
        Edge.of(WHERE, "FAR of a THING by a RUNG: RAW * S / 1000, 9999999 at most.", Terms2Edges::greatestFar);
        Edge.of(WHERE, "STEP of a RUNG: 0 of a base, else one more than that it stands ON.", Terms2Edges::steps);
        Edge.of(WHERE, "FAR of a THING (not CAST): of RUNGS that the HOUSE USES, by which it has one:", Terms2Edges::usedRungs);
        Edge.of(WHERE, "first: of the least STEP, of several the least RUNG;", Terms2Edges::firstOfSeveral);
        Edge.of(WHERE, "last: of the greatest STEP, of several the greatest RUNG;", Terms2Edges::lastOfSeveral);
        Edge.of(WHERE, "mean: all together, by how many they are.", Terms2Edges::meanOfSome);
        Edge.of(WHERE, "Then RULES, one by one: THINGS that such a one throws have no FAR any more;", Terms2Edges::thrown);
        Edge.of(WHERE, "odd: so many times the ODD one of THE LINE as it is by then (as long as there is one).", Terms2Edges::oddOnes);
    }

    private static void line() {
        Edge.of(WHERE, "THE LINE of THINGS that have a FAR, v SPEEDS, d FARS: H is 1000 * (sum of v * d) / (sum of d * d), if that is not 0.", Terms2Edges::noSlope);
        Edge.of(WHERE, "TURNED: 1000 * (sum of v * v) / (sum of v * d), likewise.", Terms2Edges::noTurned);
        Edge.of(WHERE, "CROSSED: with n THINGS 1000 * (n * sum of v * d - sum of v * sum of d) / (n * sum of d * d - sum of d, squared), likewise.", Terms2Edges::noCrossed);
        Edge.of(WHERE, "LEFT of a THING: v - H * d / 1000, 999999 at most without its sign.", Terms2Edges::greatLefts);
        Edge.plain(WHERE, "SPREAD: the sum of LEFTS squared.");
        Edge.of(WHERE, "WITHOUT a THING: H of THE LINE without it (LADDER as it was).", Terms2Edges::ladderAsItWas);
        Edge.of(WHERE, "LOW, HIGH: the least, the greatest of these.", Terms2Edges::lowAndHigh);
        Edge.of(WHERE, "ODD: the THING, without which the SPREAD (by H without it) is least.", Terms2Edges::oddOfSeveral);
        Edge.of(WHERE, "HEAVY: that without which H lies furthest from H. Of several the least THING.", Terms2Edges::heavyOfSeveral);
    }

    private static void laterEntries() {
        LadderSky x = Due.told("base 1000;on 0;away 10;away 10;has 0 0 2 50;has 0 1 1 0;has 1 1 3 0;has 1 0 9 99;", "use 0;use 1;");
        Due.due("no far by 49", x.far(0, 0, 49, 0, 0), -1);
        Due.due("a far by 50", x.far(0, 0, 50, 0, 0), 2);
        Due.due("no rung on it by 49", x.scale(0, 0, 49, 1), -1);
        Due.due("a rung on it by 50", x.scale(0, 0, 50, 1), 2000);
        Due.due("by 98", x.far(0, 0, 98, 1, -1), 6);
        Due.due("by 99", x.far(0, 0, 99, 1, -1), 9);
        Due.due("none by 0", x.line(0, 0, 0, 0), 0);
        LadderSky y = Due.told("base 1000;away 10;has 0 0 2 0;", "use 0;");
        Due.due("known since 0", y.far(0, 0, 0, 0, -1), 2);
        Due.due("and by 99", y.far(0, 0, 99, 0, -1), 2);
        y.has(0, 0, 0, 3, 7);
        Due.due("a later one strikes it in earlier years, too", y.far(0, 0, 6, 0, -1), -1);
    }

    private static void cuts() {
        LadderSky x = Due.told("base 1000;on 0;base 1;base 999;away 1;has 0 0 10 0;has 0 1 3 0;has 0 2 1999 0;has 0 3 1 0;", "use 0;use 2;way mean;", "lean 3 up 1;", "lean 3 down 1;");
        Due.due("10000 by 3", x.scale(0, 0, 0, 1), 3333);
        Due.due("100899 by 100", x.scale(0, 1, 0, 3), 1008);
        Due.due("98901 by 100", x.scale(0, 2, 0, 3), 989);
        Due.due("1999 by 1000", x.far(0, 0, 0, 0, 2), 1);
        Due.due("11 by 2", x.far(0, 0, 0, 0, -1), 5);
        LadderSky y = Due.told("base 1000;toward 1;has 0 0 3 0;", "use 0;");
        Due.due("-3000 by 9", y.line(0, 0, 0, 1), -333);
        Due.due("1000 by -3", y.line(0, 0, 0, 2), -333);
        Due.due("-1 less -999 by 1000", y.left(0, 0, 0, 0), -1);
        Due.due("the middle, -1000 by 3", y.middle(0, 0, 0), -333);
        LadderSky z = Due.told("base 1000;away 0;toward 1;has 0 0 1 0;has 1 0 4 0;", "use 0;");
        Due.due("-3000 by 9 crossed", z.line(0, 0, 0, 3), -333);
        Due.due("100000000 by 7", Due.told("base 1000;away 7;has 0 0 1000 0;", "use 0;").age(0, 0, 0), 14285714);
    }

    private static void bothEntries() {
        LadderSky x = Due.told("base 1000;on 0;away 1;away 1;away 1;away 1;has 0 0 10 0;has 0 1 4 0;has 1 0 1000 0;has 2 1 1000 0;has 3 0 20 0;has 3 1 5 0;",
            "", "cast 3;", "cast 0;cast 3;", "cast 1;cast 2;");
        Due.due("30 by 9, whatever the house uses", x.scale(0, 0, 0, 1), 3333);
        Due.due("10 by 4 without the cast", x.scale(0, 1, 0, 1), 2500);
        Due.due("all cast", x.scale(0, 2, 0, 1), -1);
        Due.due("those with one of them alone never counted", x.scale(0, 3, 0, 1), 3333);
        // rules do not touch the ladder
        LadderSky y = Due.told("base 1000;on 0;away 1;has 0 0 10 0;has 0 1 4 0;", "use 0;throw slower 9;");
        Due.due("a thrown one still leads on", y.scale(0, 0, 0, 1), 2500);
    }

    private static void noScale() {
        LadderSky x = Due.told("base 1000;on 0;on 1;away 1;away 1;has 0 0 5 0;has 1 1 5 0;has 1 2 5 0;", "use 2;");
        Due.due("none has both", x.scale(0, 0, 0, 1), -1);
        Due.due("the other has none", x.scale(0, 0, 0, 2), -1);
        Due.due("no far then", x.far(0, 0, 0, 1, 2), -1);
        x.has(0, 1, 0, 7, 0);
        Due.due("7 by 5", x.scale(0, 0, 0, 1), 1400);
        Due.due("7 by 5 again", x.scale(0, 0, 0, 2), 1400);
        Due.due("of no things", Due.told("base 1000;on 0;", "").scale(0, 0, 0, 1), -1);
        // an S of 0 is one
        LadderSky y = Due.told("base 1;on 0;away 1;has 0 0 9999 0;has 0 1 1 0;", "use 1;lean 0 down 50;");
        Due.due("S of 0", y.scale(0, 0, 0, 0), 0);
        Due.due("S of 0 on it", y.scale(0, 0, 0, 1), 0);
        Due.due("a far of 0", y.far(0, 0, 0, 0, -1), 0);
    }

    private static void greatestScale() {
        LadderSky x = Due.told("base 9999;on 0;away 1;has 0 0 9999 0;has 0 1 1 0;", "", "lean 1 down 50;");
        Due.due("99980000", x.scale(0, 0, 0, 1), 9999999);
        Due.due("49990000", x.scale(0, 1, 0, 1), 9999999);
        LadderSky y = Due.told("base 2000;on 0;away 1;has 0 0 7500 0;has 0 1 1 0;", "", "lean 1 down 50;", "lean 1 down 34;", "lean 1 down 33;");
        Due.due("15000000", y.scale(0, 0, 0, 1), 9999999);
        Due.due("15000000, leaning before it is cut down", y.scale(0, 1, 0, 1), 7500000);
        Due.due("9900000", y.scale(0, 2, 0, 1), 9900000);
        Due.due("10050000", y.scale(0, 3, 0, 1), 9999999);
        Due.due("a base", Due.told("base 9999;", "lean 0 up 50;").scale(0, 0, 0, 0), 14998);
        LadderSky z = Due.told("base 1000;on 0;away 1;has 0 0 9999 0;has 0 1 1 0;", "");
        Due.due("9999000", z.scale(0, 0, 0, 1), 9999000);
    }

    private static void greatestFar() {
        String text = "base 9999;on 0;away 1;has 0 0 9999 0;has 0 1 1 0;";
        int[][] due = {{1, 9999}, {999, 9989999}, {1000, 9999999}, {1001, 9999999}, {9999, 9999999}};
        LadderSky x = Due.told(text + "away 1;", "use 1;");
        for (int[] d : due) {
            x.has(0, 1, 1, d[0], 0);
            Due.due("far of raw " + d[0], x.far(0, 0, 0, 1, 1), d[1]);
            Due.due("far of raw " + d[0], x.far(0, 0, 0, 1, -1), d[1]);
        }
        Due.due("999 by 1000", Due.told("base 1;away 1;has 0 0 999 0;", "use 0;").far(0, 0, 0, 0, 0), 0);
        Due.due("1000 by 1000", Due.told("base 1;away 1;has 0 0 1000 0;", "use 0;").far(0, 0, 0, 0, 0), 1);
    }

    private static void steps() {
        // steps 0 1 2 0 1: rung 2 is the only one of step 2
        String text = "base 1000;on 0;on 1;base 1000;on 3;away 1;has 0 0 10 0;has 0 1 10 0;has 0 2 10 0;has 0 3 20 0;has 0 4 20 0;away 1;has 1 1 1 0;has 1 2 20 0;has 1 4 3 0;";
        LadderSky x = Due.told(text, "use 1;use 2;use 4;way last;", "use 1;use 2;use 4;way first;", "use 2;use 4;way first;", "use 1;use 4;way last;");
        Due.due("the greatest: 20 * 366 by 1000", x.far(0, 0, 0, 1, -1), 7);
        Due.due("the least", x.far(0, 1, 0, 1, -1), 1);
        Due.due("step 1 ahead of step 2", x.far(0, 2, 0, 1, -1), 3);
        Due.due("two of step 1", x.far(0, 3, 0, 1, -1), 3);
        // those of a catalogue that stood in the place before do not stay
        LadderSky z = Due.told("base 1;on 0;on 1;", "use 2;use 3;way last;");
        Due.due("in its place", Due.tell(z, 0, 0, "base 1000;base 1000;base 1000;on 0;away 1;has 0 0 4 0;has 0 2 9 0;has 0 3 2 0;"), 0);
        Due.due("step 1 is the greatest", z.far(0, 0, 0, 0, -1), 4);
        // five steps, one on the other
        LadderSky y = Due.told("base 1000;on 0;on 1;on 2;on 3;on 4;away 1;has 0 0 9 0;has 0 1 9 0;has 0 2 9 0;has 0 3 9 0;has 0 4 9 0;has 0 5 9 0;",
            "use 0;use 5;way last;lean 5 up 50;", "use 0;use 5;lean 5 up 50;");
        Due.due("step 5", y.far(0, 0, 0, 0, -1), 13);
        Due.due("step 0", y.far(0, 1, 0, 0, -1), 9);
    }

    private static void usedRungs() {
        LadderSky x = Due.told("base 1000;base 1000;on 1;away 1;has 0 0 5 0;has 0 2 7 0;", "", "use 0;", "use 1;", "use 2;", "use 3;use 4;use 5;", "use 0;cast 0;");
        int[] due = {-1, 5, -1, -1, -1, -1};
        for (int house = 0; house < due.length; house++) {
            Due.due("far by house " + house, x.far(0, house, 0, 0, -1), due[house]);
        }
        Due.due("cast no more", x.cast(5, 0, false) ? x.far(0, 5, 0, 0, -1) : -9, 5);
    }

    private static void firstOfSeveral() {
        String text = "base 1000;on 0;base 1000;on 2;away 1;has 0 0 10 0;has 0 1 10 0;has 0 2 20 0;has 0 3 20 0;away 1;has 1 0 3 0;has 1 1 4 0;has 1 2 5 0;has 1 3 6 0;";
        LadderSky x = Due.told(text, "use 0;use 2;", "use 1;use 2;", "use 1;use 3;", "use 3;use 2;use 1;use 0;", "use 3;");
        int[] rungs = {0, 2, 1, 0, 3};
        for (int house = 0; house < rungs.length; house++) {
            Due.due("first of house " + house, x.far(0, house, 0, 1, -1), x.far(0, house, 0, 1, rungs[house]));
        }
        Due.due("3", x.far(0, 0, 0, 1, -1), 3);
        Due.due("5", x.far(0, 1, 0, 1, -1), 5);
    }

    private static void lastOfSeveral() {
        String text = "base 1000;on 0;base 1000;on 2;away 1;has 0 0 10 0;has 0 1 20 0;has 0 2 20 0;has 0 3 10 0;";
        LadderSky x = Due.told(text, "use 0;use 2;way last;", "use 1;use 2;way last;", "use 1;use 3;way last;", "use 3;use 2;use 1;use 0;way last;", "use 0;way last;", "use 0;use 1;way last;lean 1 up 10;");
        int[] due = {20, 10, 20, 20, 10, 11};
        for (int house = 0; house < due.length; house++) {
            Due.due("last of house " + house, x.far(0, house, 0, 0, -1), due[house]);
        }
        // one that the thing has no far by is passed over
        LadderSky y = Due.told("base 1000;on 0;away 1;has 0 0 10 0;", "use 0;use 1;way last;");
        Due.due("the only one", y.far(0, 0, 0, 0, -1), 10);
    }

    private static void meanOfSome() {
        LadderSky x = Due.told("base 1000;base 1000;base 1000;base 1;away 1;has 0 0 10 0;has 0 1 11 0;has 0 2 13 9;has 0 3 1 0;",
            "use 0;way mean;", "use 0;use 1;way mean;", "use 0;use 1;use 2;way mean;", "use 4;way mean;", "use 0;use 3;way mean;", "use 0;use 5;way mean;");
        int[] due = {10, 10, 10, -1, 5, 10};
        for (int house = 0; house < due.length; house++) {
            Due.due("mean of house " + house, x.far(0, house, 0, 0, -1), due[house]);
        }
        Due.due("34 by 3 from 9 on", x.far(0, 2, 9, 0, -1), 11);
    }

    private static void thrown() {
        String text = "base 1000;away 10;away 20;away 60;has 0 0 1 0;has 1 0 1 0;has 2 0 1 0;";
        LadderSky x = Due.told(text, "use 0;throw faster 20;", "use 0;throw slower 20;throw faster 20;", "use 0;throw faster 0;", "use 0;throw odd 1;throw faster 15;", "use 0;throw faster 15;throw odd 1;");
        Due.due("no far", x.far(0, 0, 0, 2, -1), -1);
        Due.due("no left", x.left(0, 0, 0, 2), -1000000);
        Due.due("none without", x.without(0, 0, 0, 2), NO);
        Due.due("a far by the rung", x.far(0, 0, 0, 2, 0), 1);
        Due.due("the line has two", x.line(0, 0, 0, 0), 2);
        Due.due("one of two rules", x.line(0, 1, 0, 0), 1);
        Due.due("the second", x.far(0, 1, 0, 1, -1), 1);
        Due.due("all thrown", x.line(0, 2, 0, 0), 0);
        Due.due("no H", x.line(0, 2, 0, 1), NO);
        // the odd one is thing 2 of all, thing 0 of none but itself
        Due.due("odd, then faster than 15", x.far(0, 3, 0, 0, -1), 1);
        Due.due("one is left", x.line(0, 3, 0, 0), 1);
        Due.due("faster, then no odd one", x.line(0, 4, 0, 0), 1);
    }

    private static void oddOnes() {
        String text = "base 1000;away 10;away 20;away 60;has 0 0 1 0;has 1 0 1 0;has 2 0 1 0;";
        LadderSky x = Due.told(text, "use 0;throw odd 1;", "use 0;throw odd 2;", "use 0;throw odd 3;", "use 0;throw odd 9;throw odd 9;", "use 0;throw slower 60;throw odd 1;", "throw odd 9;");
        int[] left = {2, 1, 1, 1, 1, 0};
        for (int house = 0; house < left.length; house++) {
            Due.due("left by house " + house, x.line(0, house, 0, 0), left[house]);
        }
        Due.due("thing 2 first", x.far(0, 0, 0, 2, -1), -1);
        Due.due("then of 10 and 20 the least", x.far(0, 1, 0, 0, -1), -1);
        Due.due("20 stays", x.far(0, 3, 0, 1, -1), 1);
        // one far of 0: without the other there is no H, so that only it can be odd
        LadderSky y = Due.told("base 1000;base 1;away 10;away 20;has 0 0 1 0;has 1 1 1 0;", "use 0;use 1;throw odd 9;", "use 1;throw odd 1;");
        Due.due("the one of far 0 went", y.far(0, 0, 0, 1, -1), -1);
        Due.due("the other stayed", y.far(0, 0, 0, 0, -1), 1);
        Due.due("without H there is none", y.line(0, 1, 0, 0), 1);
    }

    private static void noSlope() {
        LadderSky x = Due.told("base 1;base 1000;away 10;away 20;has 0 0 1 0;has 1 0 999 0;has 1 1 1 5;", "use 0;use 1;way last;", "");
        Due.due("two of far 0", x.line(0, 0, 0, 0), 2);
        Due.due("no H", x.line(0, 0, 0, 1), NO);
        Due.due("H by 5", x.line(0, 0, 5, 1), 20000);
        Due.due("no things", x.line(0, 1, 0, 0), 0);
        Due.due("no H of them", x.line(0, 1, 0, 1), NO);
        Due.due("an H of 0 is one", Due.told("base 1000;away 0;has 0 0 1 0;", "use 0;").line(0, 0, 0, 1), 0);
        Due.due("the greatest", Due.told("base 1000;away 9999;has 0 0 1 0;", "use 0;").line(0, 0, 0, 1), 9999000);
        Due.due("the least", Due.told("base 1000;toward 9999;has 0 0 1 0;", "use 0;").line(0, 0, 0, 1), -9999000);
        // 24 things as far off as may be
        StringBuilder text = new StringBuilder("base 9999;on 0;" + "away 9999;".repeat(24) + "has 0 0 9999 0;has 0 1 1 0;");
        LadderSky y = Due.told(text.toString(), "use 1;");
        for (int thing = 1; thing < 24; thing++) {
            y.has(0, thing, 1, 9999, 0);
        }
        // 9999 * (9999 + 23 * 9999999) * 1000 by (9999^2 + 23 * 9999999^2)
        Due.due("so far off", y.line(0, 0, 0, 1), 0);
        Due.due("so far off, turned", y.line(0, 0, 0, 2), 1);
        Due.due("so far off, crossed", y.line(0, 0, 0, 3), 0);
        Due.due("the left of it", y.left(0, 0, 0, 23), 9999);
        Due.due("the spread", y.spread(0, 0, 0), 24L * 9999 * 9999);
    }

    private static void noTurned() {
        LadderSky x = Due.told("base 1000;away 5;toward 5;has 0 0 1 0;has 1 0 1 0;", "use 0;", "");
        Due.due("H of 0", x.line(0, 0, 0, 1), 0);
        Due.due("nothing to turn by", x.line(0, 0, 0, 2), NO);
        Due.due("no things", x.line(0, 1, 0, 2), NO);
        LadderSky y = Due.told("base 1;away 5;has 0 0 1 0;", "use 0;");
        Due.due("far of 0", y.line(0, 0, 0, 2), NO);
        LadderSky z = Due.told("base 1000;away 1;toward 1;away 0;has 0 0 1 0;has 1 0 2 0;has 2 0 9 0;", "use 0;");
        Due.due("2000 by -1", z.line(0, 0, 0, 2), -2000);
    }

    private static void noCrossed() {
        LadderSky x = Due.told("base 1000;away 5;away 9;has 0 0 7 0;has 1 0 7 0;", "use 0;", "use 0;cast 0;", "");
        Due.due("both as far", x.line(0, 0, 0, 3), NO);
        Due.due("H all the same", x.line(0, 0, 0, 1), 1000);
        Due.due("one alone", x.line(0, 1, 0, 3), NO);
        Due.due("none", x.line(0, 2, 0, 3), NO);
        x.has(0, 1, 0, 8, 0);
        // 2 * (35 + 72) - 14 * 15 by 2 * (49 + 64) - 225
        Due.due("4000 by 1", x.line(0, 0, 0, 3), 4000);
        LadderSky y = Due.told("base 1;base 1000;away 5;away 5;has 0 0 1 0;has 1 1 3 0;", "use 0;use 1;");
        Due.due("of a far of 0, too: 0 by 9", y.line(0, 0, 0, 3), 0);
    }

    /** By the document's numbers no left comes near the bound: here is about the greatest, told whole. */
    private static void greatLefts() {
        LadderSky x = Due.told("base 1000;toward 9999;" + "away 9999;".repeat(23) + "has 0 0 100 0;", "use 0;");
        for (int thing = 1; thing < 24; thing++) {
            x.has(0, thing, 0, 20, 0);
        }
        // 1000 * 9999 * (23 * 20 - 100) by 10000 + 23 * 400
        Due.due("H", x.line(0, 0, 0, 1), 187481);
        Due.due("left", x.left(0, 0, 0, 0), -9999 - 18748);
        Due.due("left of another", x.left(0, 0, 0, 23), 9999 - 3749);
        Due.due("spread", x.spread(0, 0, 0), 28747L * 28747 + 23L * 6250 * 6250);
    }

    private static void ladderAsItWas() {
        LadderSky x = Due.told("base 1000;on 0;away 100;away 320;has 0 0 10 0;has 0 1 5 0;has 1 1 8 0;", "use 0;use 1;");
        Due.due("without the one that leads on: 320 by 16", x.without(0, 0, 0, 0), 20000);
        Due.due("without the other", x.without(0, 0, 0, 1), 10000);
        Due.due("low", x.span(0, 0, 0, false), 10000);
        Due.due("high", x.span(0, 0, 0, true), 20000);
        // rules are not asked again: without thing 2 thing 0 would be the odd one
        LadderSky y = Due.told("base 1000;away 10;away 20;away 60;away 19;has 0 0 1 0;has 1 0 1 0;has 2 0 1 0;has 3 0 1 0;", "use 0;throw odd 1;");
        Due.due("60 is thrown", y.far(0, 0, 0, 2, -1), -1);
        Due.due("without 10", y.without(0, 0, 0, 0), 19500);
    }

    private static void lowAndHigh() {
        LadderSky x = Due.told("base 1000;base 1;away 10;away 20;toward 30;away 7;has 0 0 1 0;has 1 0 1 1;has 2 0 1 2;has 3 1 1 0;", "use 0;use 1;");
        Due.due("one with a far of 0 beside: without it", x.span(0, 0, 0, false), 10000);
        Due.due("the same", x.span(0, 0, 0, true), 10000);
        Due.due("10 and 20", x.span(0, 0, 1, false), 10000);
        Due.due("20 and 10", x.span(0, 0, 1, true), 20000);
        // 0 without thing 3; -5000, -10000, 15000 without the others
        Due.due("below 0", x.span(0, 0, 2, false), -10000);
        Due.due("above 0", x.span(0, 0, 2, true), 15000);
    }

    private static void oddOfSeveral() {
        LadderSky x = Due.told("base 1000;away 10;away 20;away 60;has 0 0 1 0;has 1 0 1 0;has 2 0 1 1;", "use 0;", "use 0;cast 0;");
        Due.due("of two alike the least", x.odd(0, 0, 0, false), 0);
        Due.due("800, 1250, 50", x.odd(0, 0, 1, false), 2);
        Due.due("two alike without thing 0", x.odd(0, 1, 1, false), 1);
        // the spread is that of the others: the one thrown out is not in it
        LadderSky y = Due.told("base 1000;away 1;away 1000;away 1;has 0 0 1 0;has 1 0 1 0;has 2 0 1 0;", "use 0;");
        Due.due("the far-off one", y.odd(0, 0, 0, false), 1);
    }

    private static void heavyOfSeveral() {
        LadderSky x = Due.told("base 1000;away 10;away 20;away 60;has 0 0 1 0;has 1 0 1 0;has 2 0 1 1;", "use 0;", "use 0;cast 0;");
        Due.due("5000 to either side: the least", x.odd(0, 0, 0, true), 0);
        Due.due("10000, 5000, 15000", x.odd(0, 0, 1, true), 2);
        Due.due("two alike without thing 0", x.odd(0, 1, 1, true), 1);
        LadderSky y = Due.told("base 1000;away 10;away 10;away 10;has 0 0 1 0;has 1 0 1 0;has 2 0 1 0;", "use 0;");
        Due.due("0, 0, 0", y.odd(0, 0, 0, true), 0);
        // without the only one of a far above 0 there is no H, so that it is not heavy
        LadderSky z = Due.told("base 1000;base 1;away 10;away 10;has 0 0 1 0;has 1 1 1 0;", "use 0;use 1;");
        Due.due("the one of far 0", z.odd(0, 0, 0, true), 1);
    }

    private static LadderSky single(String speed, int raw, String more) {
        return Due.told("base 1000;" + speed + ";has 0 0 " + raw + " 0;" + more, "use 0;");
    }

    private static void ages() {
        Due.due("H of 1", single("away 1", 1000, "").age(0, 0, 0), 100000000);
        Due.due("H of 9999000", single("away 9999", 1, "").age(0, 0, 0), 10);
        Due.due("H of 0", single("away 0", 1, "").age(0, 0, 0), -1);
        Due.due("H of 0, cut from above", single("away 1", 1001, "").age(0, 0, 0), -1);
        Due.due("H of -1", single("toward 1", 1000, "").age(0, 0, 0), -1);
    }

    private static void olderStones() {
        Due.due("an age of 10", single("away 9999", 1, "stone 10;stone 11;stone 9999;stone 1;").barred(0, 0, 0), 0b0110);
        Due.due("all four", single("away 9999", 1, "stone 11;stone 11;stone 11;stone 11;").barred(0, 0, 0), 0b1111);
        Due.due("an age above all stones", single("away 1", 1000, "stone 9999;").barred(0, 0, 0), 0);
        Due.due("no stones", single("away 1", 1, "").barred(0, 0, 0), 0);
        Due.due("an age of 10000", single("away 10", 1, "stone 9999;").barred(0, 0, 0), 0);
        Due.due("an age of 9090", single("away 11", 1, "stone 9999;stone 9090;stone 9091;").barred(0, 0, 0), 0b101);
    }

    private static void oneMore() {
        LadderSky x = Due.told("base 1000;away 151;has 0 0 100 0;", "use 0;lean 0 up 50;", "use 0;lean 0 down 50;", "use 0;");
        Due.due("151 by 151 less 151 by 150", x.up(0, 0, 0, 0), 1000 - 1006);
        Due.due("the lean is 50 still", x.of(0, 10), 50);
        Due.due("H is as it was", x.line(0, 0, 0, 1), 1006);
        Due.due("151 by 51 less 151 by 50", x.up(0, 1, 0, 0), 2960 - 3020);
        Due.due("151 by 101 less 151 by 100", x.up(0, 2, 0, 0), 1495 - 1510);
        // the ladder above it, fars and rules are seen anew
        LadderSky y = Due.told("base 1000;on 0;away 100;away 100;has 0 0 100 0;has 0 1 50 0;has 1 1 100 0;", "use 1;throw farther 200;");
        Due.due("both", y.line(0, 0, 0, 0), 2);
        Due.due("the further one is thrown then: 990 less 600", y.up(0, 0, 0, 0), 390);
    }

    private static void worstOfSeveral() {
        LadderSky x = Due.told("base 1000;base 1000;base 1000;away 100;away 100;has 0 0 100 0;has 1 1 100 0;", "use 0;use 1;");
        Due.due("up 0", x.up(0, 0, 0, 0), -5);
        Due.due("up 1", x.up(0, 0, 0, 1), -5);
        Due.due("the least", x.worst(0, 0, 0), 0);
        LadderSky y = Due.told("base 1000;base 1000;base 1000;away 9000;away 900;has 0 1 100 0;has 1 2 1000 0;", "use 1;use 2;");
        Due.due("not used", y.up(0, 0, 0, 0), 0);
        Due.due("above 0", y.up(0, 0, 0, 1), 8);
        Due.due("below 0, but greater", y.up(0, 0, 0, 2), -26);
        Due.due("the greater", y.worst(0, 0, 0), 2);
        LadderSky z = Due.told("base 1000;base 1000;away 1;has 0 1 1000 0;", "use 1;throw farther 1009;");
        Due.due("one without an up is none", z.worst(0, 0, 0), 0);
        // two of 9 above 0, then four of 7 below
        LadderSky w = Due.told("base 1000;".repeat(6) + "away 9000;away 9000;away 0;has 0 0 100 0;has 1 1 100 0;has 2 2 1000 0;has 2 3 1000 0;has 2 4 1000 0;has 2 5 1000 0;",
            "use 0;use 1;use 2;use 3;use 4;use 5;way mean;");
        int[] ups = {9, 9, -7, -7, -7, -7};
        for (int rung = 0; rung < 6; rung++) {
            Due.due("up " + rung, w.up(0, 0, 0, rung), ups[rung]);
        }
        Due.due("the least of the greatest", w.worst(0, 0, 0), 0);
        Due.due("no rungs", Due.told("", "").worst(0, 0, 0), -1);
    }
}
