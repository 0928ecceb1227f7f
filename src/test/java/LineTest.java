/** Promises 13 to 24: the ladder, the fars, rules, the line and what lies oddly by it. */
public final class LineTest {
    private static final long NO = -2000000000L;
    private static final String FOUR = "base 1000;on 0;away 10;away 30;toward 5;away 90;stone 9000;stone 2000;stone 6019;stone 6020;"
        + "has 0 0 1 0;has 1 0 2 0;has 2 0 1 3;has 1 1 4 1;has 3 1 10 2;";

    private static void theLadder() {
        LadderSky x = Due.told("base 1000;on 0;on 1;away 1;away 2;away 3;"
            + "has 0 0 10 0;has 0 1 4 2;has 1 0 21 1;has 1 1 6 1;has 1 2 9 3;has 2 2 8 0;", "use 0;");
        Due.due("a base", x.scale(0, 0, 0, 0), 1000);
        Due.due("none by year 0", x.scale(0, 0, 0, 1), -1);
        Due.due("by year 1: 21 by 6", x.scale(0, 0, 1, 1), 3500);
        Due.due("by year 2: 31 by 10", x.scale(0, 0, 2, 1), 3100);
        Due.due("the next by year 2", x.scale(0, 0, 2, 2), -1);
        Due.due("by year 3: 18 by 9", x.scale(0, 0, 3, 2), 2000);
        Due.due("far by it", x.far(0, 0, 3, 2, 2), 16);
        Due.due("no far by year 2", x.far(0, 0, 2, 2, 2), -1);
        Due.due("not used", x.far(0, 0, 3, 2, -1), -1);
        x.lean(0, 0, -50);
        Due.due("a leaning base", x.scale(0, 0, 99, 0), 500);
        Due.due("goes up: 5 and 10 by 10", x.scale(0, 0, 99, 1), 1500);
        x.lean(0, 1, 33);
        Due.due("leans on top: 1500 * 133 by 100", x.scale(0, 0, 99, 1), 1995);
        x.cast(0, 1, true);
        Due.due("without the cast: 5 by 4, leaning", x.scale(0, 0, 99, 1), 1662);
        Due.due("a cast one has a far by a rung", x.far(0, 0, 99, 1, 1), 9);
        Due.due("and none", x.far(0, 0, 99, 1, -1), -1);
        Due.due("nobody leads to the next", x.scale(0, 0, 99, 2), -1);
        int[][] wrong = {{1, 0, 0, 0}, {-1, 0, 0, 0}, {0, 1, 0, 0}, {0, -1, 0, 0}, {0, 0, 100, 0}, {0, 0, -1, 0}, {0, 0, 0, 3}, {0, 0, 0, -1}};
        for (int[] w : wrong) {
            Due.due("scale of none", x.scale(w[0], w[1], w[2], w[3]), -1);
        }
    }

    private static void greatNumbers() {
        LadderSky x = Due.told("base 9999;on 0;on 1;away 9999;has 0 0 9999 0;has 0 1 1 0;has 0 2 9999 0;away 1;has 1 1 9999 0;", "use 1;");
        Due.due("99980 by 1 is too much", x.scale(0, 0, 0, 1), 9999999);
        Due.due("far of raw 1", x.far(0, 0, 0, 0, 1), 9999);
        Due.due("far of raw 9999", x.far(0, 0, 0, 1, 1), 9999999);
        Due.due("a leaning base", x.lean(0, 0, 50) ? x.scale(0, 0, 0, 0) : 0, 14998);
        LadderSky y = Due.told("base 1;base 1000;away 5;away 7;has 0 0 999 0;has 1 0 1 0;", "use 0;");
        Due.due("a far of 0", y.far(0, 0, 0, 0, -1), 0);
        Due.due("things", y.line(0, 0, 0, 0), 2);
        Due.due("no H", y.line(0, 0, 0, 1), NO);
        Due.due("no turned", y.line(0, 0, 0, 2), NO);
        Due.due("no crossed", y.line(0, 0, 0, 3), NO);
        Due.due("no left", y.left(0, 0, 0, 0), -1000000);
        Due.due("no spread", y.spread(0, 0, 0), -1);
        Due.due("none without", y.without(0, 0, 0, 0), NO);
        Due.due("no low", y.span(0, 0, 0, false), NO);
        Due.due("no high", y.span(0, 0, 0, true), NO);
        Due.due("no odd", y.odd(0, 0, 0, false), -1);
        Due.due("no heavy", y.odd(0, 0, 0, true), -1);
        Due.due("no age", y.age(0, 0, 0), -1);
        Due.due("no barred", y.barred(0, 0, 0), -1);
        Due.due("no up", y.up(0, 0, 0, 0), NO);
        Due.due("no worst", y.worst(0, 0, 0), -1);
    }

    private static void ways() {
        String text = "base 1000;on 0;base 2000;on 1;away 100;has 0 0 100 0;has 0 1 50 0;has 0 2 60 0;has 0 3 30 0;";
        String[][] due = {
            {"use 0;use 1;use 2;use 3;way first;", "100"}, {"use 1;use 2;use 3;", "120"}, {"use 1;use 3;", "100"},
            {"use 0;use 1;use 2;use 3;way last;", "99"}, {"use 0;use 1;use 2;way last;", "100"}, {"use 0;use 2;way last;", "120"},
            {"use 0;use 1;use 2;use 3;way mean;", "104"}, {"use 2;use 3;way mean;", "109"}, {"use 4;use 5;way mean;", "-1"},
            {"", "-1"}, {"use 3;cast 0;", "-1"}};
        for (String[] d : due) {
            LadderSky x = Due.told(text, d[0]);
            Due.due("far by " + d[0], x.far(0, 0, 0, 0, -1), Integer.parseInt(d[1]));
        }
        LadderSky x = Due.told(text, "use 0;");
        int[][] wrong = {{1, 0, 0, 0, -1}, {-1, 0, 0, 0, 0}, {0, 1, 0, 0, -1}, {0, -1, 0, 0, 0}, {0, 0, 100, 0, -1}, {0, 0, -1, 0, 0},
            {0, 0, 0, 1, -1}, {0, 0, 0, -1, -1}, {0, 0, 0, 0, -2}, {0, 0, 0, 0, 4}, {0, 0, 0, 24, 0}};
        for (int[] w : wrong) {
            Due.due("far of none", x.far(w[0], w[1], w[2], w[3], w[4]), -1);
        }
        // steps of the catalogue that stood there before do not stay
        LadderSky z = Due.told("base 1;on 0;on 1;", "use 2;use 3;way last;");
        Due.due("in its place", Due.tell(z, 0, 0, "base 1000;base 1000;base 1000;on 0;away 1;has 0 0 4 0;has 0 2 9 0;has 0 3 2 0;"), 0);
        Due.due("rung 3 is last", z.far(0, 0, 0, 0, -1), 4);
        // of two with one step and one rung known later
        LadderSky y = Due.told("base 1000;base 1000;away 1;has 0 0 5 9;has 0 1 7 0;", "use 0;use 1;", "use 0;use 1;way last;");
        Due.due("ahead of 9", y.far(0, 0, 8, 0, -1), 7);
        Due.due("by 9", y.far(0, 0, 9, 0, -1), 5);
        Due.due("last by 9", y.far(0, 1, 9, 0, -1), 7);
    }

    private static void rules() {
        String text = "base 1000;away 10;toward 30;away 50;toward 70;has 0 0 1 0;has 1 0 3 0;has 2 0 5 0;has 3 0 7 0;";
        Object[][] due = {
            {"throw slower 30;", 0b1110}, {"throw slower 31;", 0b1100}, {"throw faster 50;", 0b0111}, {"throw faster 49;", 0b0011},
            {"throw nearer 3;", 0b1110}, {"throw nearer 4;", 0b1100}, {"throw farther 5;", 0b0111}, {"throw farther 4;", 0b0011},
            {"throw slower 0;", 0b1111}, {"throw slower 11;throw farther 6;", 0b0110}, {"throw faster 0;", 0}};
        for (Object[] d : due) {
            LadderSky x = Due.told(text, "use 0;" + d[0]);
            int bits = 0;
            for (int thing = 0; thing < 4; thing++) {
                bits |= x.far(0, 0, 0, thing, -1) == -1 ? 0 : 1 << thing;
            }
            Due.due("fars by " + d[0], bits, (Integer) d[1]);
            Due.due("things by " + d[0], x.line(0, 0, 0, 0), Integer.bitCount((Integer) d[1]));
            Due.due("far by the rung stays", x.far(0, 0, 0, 3, 0), 7);
        }
        String odd = "base 1000;away 10;away 20;away 30;away 100;has 0 0 1 0;has 1 0 2 0;has 2 0 3 0;has 3 0 4 0;";
        Object[][] odds = {
            {"throw odd 1;", 0b0111}, {"throw odd 2;", 0b0110}, {"throw odd 3;", 0b0100}, {"throw odd 4;", 0b0100}, {"throw odd 9;", 0b0100},
            {"throw odd 1;throw faster 50;", 0b0111}, {"throw faster 50;throw odd 1;", 0b0110}, {"throw odd 1;throw odd 1;", 0b0110}};
        for (Object[] d : odds) {
            LadderSky x = Due.told(odd, "use 0;" + d[0]);
            int bits = 0;
            for (int thing = 0; thing < 4; thing++) {
                bits |= x.far(0, 0, 0, thing, -1) == -1 ? 0 : 1 << thing;
            }
            Due.due("fars by " + d[0], bits, (Integer) d[1]);
        }
    }

    private static void theLine() {
        LadderSky x = Due.told(FOUR, "use 0;use 1;");
        long[][] due = {{0, 2, 14000, 14285, 20000}, {2, 3, 17333, 17500, 20000}, {3, 4, 16612, 17718, 21744}, {99, 4, 16612, 17718, 21744}};
        for (long[] d : due) {
            for (int what = 0; what < 4; what++) {
                Due.due("line by " + d[0] + ", " + what, x.line(0, 0, (int) d[0], what), d[what + 1]);
            }
        }
        int[] lefts = {-6, -3, -21, 7};
        long[] without = {16833, 16851, 17333, 10833};
        for (int thing = 0; thing < 4; thing++) {
            Due.due("left " + thing, x.left(0, 0, 3, thing), lefts[thing]);
            Due.due("without " + thing, x.without(0, 0, 3, thing), without[thing]);
        }
        Due.due("left without far", x.left(0, 0, 2, 2), -1000000);
        Due.due("without one without far", x.without(0, 0, 2, 2), NO);
        Due.due("spread", x.spread(0, 0, 3), 535);
        Due.due("low", x.span(0, 0, 3, false), 10833);
        Due.due("high", x.span(0, 0, 3, true), 17333);
        Due.due("odd", x.odd(0, 0, 3, false), 2);
        Due.due("heavy", x.odd(0, 0, 3, true), 3);
        Due.due("age", x.age(0, 0, 3), 6019);
        Due.due("barred", x.barred(0, 0, 3), 0b1001);
        Due.due("line 4", x.line(0, 0, 3, 4), NO);
        Due.due("line -1", x.line(0, 0, 3, -1), NO);
        Due.due("left of thing 4", x.left(0, 0, 3, 4), -1000000);
        Due.due("left of thing -1", x.left(0, 0, 3, -1), -1000000);
        Due.due("without thing 4", x.without(0, 0, 3, 4), NO);
        Due.due("without thing -1", x.without(0, 0, 3, -1), NO);
        int[][] wrong = {{1, 0, 0}, {-1, 0, 0}, {0, 1, 0}, {0, -1, 0}, {0, 0, 100}, {0, 0, -1}};
        for (int[] w : wrong) {
            noneSuch(x, w[0], w[1], w[2]);
        }
    }

    private static void noneSuch(LadderSky x, int c, int h, int y) {
        for (int what = 0; what < 4; what++) {
            Due.due("line of none", x.line(c, h, y, what), NO);
        }
        Due.due("left of none", x.left(c, h, y, 0), -1000000);
        Due.due("spread of none", x.spread(c, h, y), -1);
        Due.due("without of none", x.without(c, h, y, 0), NO);
        Due.due("low of none", x.span(c, h, y, false), NO);
        Due.due("high of none", x.span(c, h, y, true), NO);
        Due.due("odd of none", x.odd(c, h, y, false), -1);
        Due.due("heavy of none", x.odd(c, h, y, true), -1);
        Due.due("age of none", x.age(c, h, y), -1);
        Due.due("barred of none", x.barred(c, h, y), -1);
        Due.due("up of none", x.up(c, h, y, 0), NO);
        Due.due("worst of none", x.worst(c, h, y), -1);
    }

    private static void one() {
        LadderSky x = Due.told("base 1000;stone 5;toward 7;has 0 0 2 0;", "use 0;");
        Due.due("H below 0", x.line(0, 0, 0, 1), -3500);
        Due.due("turned", x.line(0, 0, 0, 2), -3500);
        Due.due("nothing crosses", x.line(0, 0, 0, 3), NO);
        Due.due("left", x.left(0, 0, 0, 0), 0);
        Due.due("spread", x.spread(0, 0, 0), 0);
        Due.due("none without it", x.without(0, 0, 0, 0), NO);
        Due.due("no low", x.span(0, 0, 0, false), NO);
        Due.due("no odd", x.odd(0, 0, 0, false), -1);
        Due.due("no heavy", x.odd(0, 0, 0, true), -1);
        Due.due("no age", x.age(0, 0, 0), -1);
        Due.due("no barred", x.barred(0, 0, 0), -1);
        // -1 * 3 / 1000 is cut toward 0
        LadderSky y = Due.told("base 1000;toward 1;away 0;has 0 0 1 0;has 1 0 26 0;", "use 0;");
        Due.due("-1000 by 677", y.line(0, 0, 0, 1), -1);
        Due.due("left of 0 - -26 / 1000", y.left(0, 0, 0, 1), 0);
        Due.due("H of 0", y.without(0, 0, 0, 0), 0);
        // age of an H of 0
        LadderSky z = Due.told("base 1000;away 0;has 0 0 1 0;", "use 0;");
        Due.due("H of 0", z.line(0, 0, 0, 1), 0);
        Due.due("turned by 0", z.line(0, 0, 0, 2), NO);
        Due.due("no age of 0", z.age(0, 0, 0), -1);
        Due.due("no barred of 0", z.barred(0, 0, 0), -1);
        // an age of 5000 bars no stone of 5000
        LadderSky w = Due.told("base 1000;away 20;has 0 0 1 0;stone 5000;stone 5001;stone 9999;stone 1;", "use 0;");
        Due.due("age", w.age(0, 0, 0), 5000);
        Due.due("barred", w.barred(0, 0, 0), 0b0110);
        // of several the least thing
        LadderSky v = Due.told("base 1000;away 10;away 10;away 10;has 0 0 1 0;has 1 0 1 0;has 2 0 1 0;", "use 0;", "use 0;cast 0;");
        Due.due("odd", v.odd(0, 0, 0, false), 0);
        Due.due("heavy", v.odd(0, 0, 0, true), 0);
        Due.due("odd without 0", v.odd(0, 1, 0, false), 1);
        Due.due("heavy without 0", v.odd(0, 1, 0, true), 1);
    }

    private static void leansGoUp() {
        LadderSky x = Due.told("base 1000;base 2000;on 0;away 100;away 300;has 0 0 100 0;has 1 1 200 0;", "use 0;use 1;");
        Due.due("H", x.line(0, 0, 0, 1), 764);
        Due.due("up 0", x.up(0, 0, 0, 0), 0);
        Due.due("up 1", x.up(0, 0, 0, 1), -7);
        Due.due("up 2", x.up(0, 0, 0, 2), 0);
        Due.due("up 3", x.up(0, 0, 0, 3), NO);
        Due.due("up -1", x.up(0, 0, 0, -1), NO);
        Due.due("worst", x.worst(0, 0, 0), 1);
        x.lean(0, 1, 50);
        Due.due("H leaning", x.line(0, 0, 0, 1), 513);
        Due.due("51 is 51", x.up(0, 0, 0, 1), -3);
        Due.due("the lean stays", x.of(0, 11), 50);
        x.lean(0, 1, 0);
        x.cast(0, 1, true);
        Due.due("up 0 alone: 990 less 1000", x.up(0, 0, 0, 0), -10);
        Due.due("up 1 of nobody", x.up(0, 0, 0, 1), 0);
        Due.due("worst", x.worst(0, 0, 0), 0);
        x.cast(0, 0, true);
        Due.due("no H", x.up(0, 0, 0, 0), NO);
        Due.due("no worst", x.worst(0, 0, 0), -1);
        // no H with one more: a rule throws the thing then
        LadderSky y = Due.told("base 1000;base 1;away 1;has 0 0 100 0;", "use 0;throw farther 100;");
        Due.due("thrown with one more", y.up(0, 0, 0, 0), NO);
        Due.due("the other has an up", y.worst(0, 0, 0), 1);
        LadderSky z = Due.told("base 1000;away 1;has 0 0 100 0;", "use 0;throw farther 100;");
        Due.due("no rung has one", z.worst(0, 0, 0), -1);
    }

    /** Six rungs one on the other, 24 things that all have the last. */
    private static void allThatMayBe() {
        LadderSky x = Due.told("base 1000;on 0;on 1;on 2;on 3;on 4;" + "away 100;".repeat(24), "use 5;", "use 0;use 1;use 2;use 3;use 4;use 5;way last;");
        for (int rung = 0; rung < 6; rung++) {
            x.has(0, rung, rung, 10, 0);
            x.has(0, Math.max(0, rung - 1), rung, 5, 0);
        }
        x.has(0, 0, 0, 10, 0);
        for (int thing = 0; thing < 24; thing++) {
            x.has(0, thing, 5, 1, 0);
        }
        // each step doubles: 10 by 5; the last: 160 and 80 by 1 and 1
        int[] scales = {1000, 2000, 4000, 8000, 16000, 120000};
        for (int rung = 0; rung < 6; rung++) {
            Due.due("scale " + rung, x.scale(0, 0, 0, rung), scales[rung]);
        }
        Due.due("things", x.line(0, 0, 0, 0), 24);
        Due.due("H", x.line(0, 0, 0, 1), 833);
        Due.due("last", x.far(0, 1, 0, 4, -1), 120);
        Due.due("up 5: 826 less 833", x.up(0, 0, 0, 5), -7);
        Due.due("worst", x.worst(0, 0, 0), 5);
        Due.due("odd", x.odd(0, 0, 0, false), 0);
        Due.due("low", x.span(0, 0, 0, false), 833);
    }

    public static void main(String[] args) {
        theLadder();
        greatNumbers();
        ways();
        rules();
        theLine();
        one();
        leansGoUp();
        allThatMayBe();
        Due.close("LineTest");
    }
}
