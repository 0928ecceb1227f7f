/** Boundary sentences of promises 13 to 24: what the calls about the ladder and the line refuse. */
final class LineEdges {
    private static final long NO = Edge.NO;
    private static final int[] C = Edge.but(2);
    private static final int[] H = Edge.but(3);
    private static final int[] Y = Edge.butYears();
    private static final int[] R = Edge.but(2);
    private static final int[] T = Edge.but(4);

    private LineEdges() {
    }

    /** Two rungs and four things, the last without entries; the second house uses nothing, the third sees far-off ones alone. */
    private static LadderSky some() {
        LadderSky x = Due.told("base 1000;on 0;away 10;away 30;toward 5;away 90;stone 9000;has 0 0 1 0;has 1 0 2 0;has 2 0 1 3;has 1 1 4 1;",
            "use 0;use 1;", "", "use 0;throw nearer 2;");
        Due.due("another catalogue, of nothing", Due.tell(x, 0, -1, ""), 1);
        return x;
    }

    static void all() {
        ladder();
        line();
        ages();
    }

    private static void ladder() {
        Edge.plain("Promise 13", "S of a RUNG, with its LEAN.");
        Edge.of("Promise 13", "NONE: it has none, or there is none such (of any).", LineEdges::noScale);
        Edge.plain("Promise 14", "FAR of a THING, or (rung not NONE) that by a RUNG.");
        Edge.of("Promise 14", "NONE: it has none, or there is none such (of any).", LineEdges::noFar);
    }

    private static void line() {
        Edge.plain("Promise 15", "THE LINE, what 0: how many THINGS, 1: H, 2: TURNED, 3: CROSSED.");
        Edge.of("Promise 15", "-2000000000: there is none such (of any), or for another what.", LineEdges::noLine);
        Edge.plain("Promise 16", "LEFT.");
        Edge.of("Promise 16", "-1000000: it has no FAR, there is no H, or there is none such (of any).", LineEdges::noLeft);
        Edge.plain("Promise 17", "SPREAD.");
        Edge.of("Promise 17", "NONE: there is no H, or there is none such (of any).", LineEdges::noSpread);
        Edge.of("Promise 18", "WITHOUT a THING that has a FAR.", LineEdges::withoutOneWithoutFar);
        Edge.of("Promise 18", "-2000000000: there is none such (of any), or no H without it.", LineEdges::noneWithout);
        Edge.plain("Promise 19", "LOW, or (high) HIGH.");
        Edge.of("Promise 19", "-2000000000: there is none such (of any), or none without any THING.", LineEdges::noSpan);
        Edge.plain("Promise 20", "ODD, or (heavy) HEAVY.");
        Edge.of("Promise 20", "NONE: there is no H, none without any THING, or there is none such (of any).", LineEdges::noOdd);
    }

    private static void ages() {
        Edge.plain("Promise 21", "AGE.");
        Edge.of("Promise 21", "NONE: H is not above 0, there is none, or there is none such (of any).", LineEdges::noAge);
        Edge.plain("Promise 22", "BARRED.");
        Edge.of("Promise 22", "NONE: as age().", LineEdges::noBarred);
        Edge.plain("Promise 23", "UP.");
        Edge.of("Promise 23", "-2000000000: there is no H (of either), or there is none such (of any).", LineEdges::noUp);
        Edge.plain("Promise 24", "WORST.");
        Edge.of("Promise 24", "NONE: no RUNG has an UP, or there is none such (of any).", LineEdges::noWorst);
    }

    /** One thing of this speed, one raw unit off. */
    private static LadderSky one(String speed) {
        return Due.told("base 1000;" + speed + ";stone 5;has 0 0 1 0;", "use 0;");
    }

    private static void noScale() {
        LadderSky x = some();
        Edge.refuses("scale", a -> x.scale(a[0], a[1], a[2], a[3]), -1, new int[] {0, 0, 0, 0}, C, H, Y, R);
        Due.due("rung 1 by 0", x.scale(0, 0, 0, 1), -1);
        Due.due("rung 1 by 1", x.scale(0, 0, 1, 1), 500);
        Due.due("of no rungs", x.scale(1, 0, 0, 0), -1);
        Due.due("by 99", x.scale(0, 0, 99, 0), 1000);
        Due.due("of a house that uses nothing", x.scale(0, 1, 0, 0), 1000);
    }

    private static void noFar() {
        LadderSky x = some();
        Edge.refuses("far", a -> x.far(a[0], a[1], a[2], a[3], -1), -1, new int[] {0, 0, 0, 0}, C, H, Y, T);
        int[] rungs = {-2, -3, 2, 3, 5, 6, 7, 32, Integer.MIN_VALUE, Integer.MAX_VALUE};
        Edge.refuses("far by a rung", a -> x.far(a[0], a[1], a[2], a[3], a[4]), -1, new int[] {0, 0, 0, 0, 0}, C, H, Y, T, rungs);
        Due.due("not known yet", x.far(0, 0, 2, 2, -1), -1);
        Due.due("not known yet by the rung", x.far(0, 0, 2, 2, 0), -1);
        Due.due("known", x.far(0, 0, 3, 2, -1), 1);
        Due.due("without entries", x.far(0, 0, 99, 3, -1), -1);
        Due.due("by a rung without S", x.far(0, 0, 0, 1, 1), -1);
        Due.due("of a house that uses nothing", x.far(0, 1, 0, 0, -1), -1);
        Due.due("by the rung it is there", x.far(0, 1, 0, 0, 0), 1);
        Due.due("thrown", x.far(0, 2, 0, 0, -1), -1);
        x.cast(0, 0, true);
        Due.due("cast", x.far(0, 0, 0, 0, -1), -1);
    }

    private static void noLine() {
        LadderSky x = some();
        for (int what = 0; what < 4; what++) {
            int w = what;
            Edge.refuses("line", a -> x.line(a[0], a[1], a[2], w), NO, new int[] {0, 0, 0}, C, H, Y);
        }
        Edge.refuses("line", a -> x.line(0, 0, 0, a[0]), NO, new int[] {0}, Edge.but(4));
        Due.due("no things", x.line(0, 1, 0, 0), 0);
        Due.due("of nothing", x.line(1, 0, 0, 0), 0);
        for (int what = 1; what < 4; what++) {
            Due.due("nothing, " + what, x.line(1, 0, 0, what), NO);
        }
    }

    private static void noLeft() {
        LadderSky x = some();
        Edge.refuses("left", a -> x.left(a[0], a[1], a[2], a[3]), -1000000, new int[] {0, 0, 0, 0}, C, H, Y, T);
        Due.due("no far by 2", x.left(0, 0, 2, 2), -1000000);
        Due.due("a far by 3", x.left(0, 0, 3, 2) != -1000000, true);
        Due.due("thrown", x.left(0, 2, 0, 0), -1000000);
        LadderSky y = Due.told("base 1;away 5;has 0 0 1 0;", "use 0;");
        Due.due("a far of 0 and no H", y.left(0, 0, 0, 0), -1000000);
        LadderSky z = Due.told("base 1;base 1000;away 5;away 7;has 0 0 1 0;has 1 1 1 0;", "use 0;use 1;");
        Due.due("a far of 0 with an H", z.left(0, 0, 0, 0), 5);
    }

    private static void noSpread() {
        LadderSky x = some();
        Edge.refuses("spread", a -> x.spread(a[0], a[1], a[2]), -1, new int[] {0, 0, 0}, C, H, Y);
        Due.due("no things", x.spread(0, 1, 0), -1);
        Due.due("of nothing", x.spread(1, 0, 0), -1);
        Due.due("fars of 0", Due.told("base 1;away 5;has 0 0 1 0;", "use 0;").spread(0, 0, 0), -1);
        Due.due("of one there is none", one("away 5").spread(0, 0, 0), 0);
    }

    private static void withoutOneWithoutFar() {
        LadderSky x = some();
        Due.due("no entries", x.without(0, 0, 99, 3), NO);
        Due.due("not known yet", x.without(0, 0, 2, 2), NO);
        Due.due("known", x.without(0, 0, 3, 2), 14000);
        Due.due("thrown", x.without(0, 2, 0, 0), NO);
        x.cast(0, 0, true);
        Due.due("cast", x.without(0, 0, 3, 0), NO);
        // one of far 0 has a far
        LadderSky y = Due.told("base 1;base 1000;away 5;away 7;has 0 0 1 0;has 1 1 1 0;", "use 0;use 1;");
        Due.due("without one of far 0", y.without(0, 0, 0, 0), 7000);
    }

    private static void noneWithout() {
        LadderSky x = some();
        Edge.refuses("without", a -> x.without(a[0], a[1], a[2], a[3]), NO, new int[] {0, 0, 0, 0}, C, H, Y, T);
        Due.due("of one", one("away 5").without(0, 0, 0, 0), NO);
        LadderSky y = Due.told("base 1;base 1000;away 5;away 7;has 0 0 1 0;has 1 1 1 0;", "use 0;use 1;");
        Due.due("only a far of 0 is left", y.without(0, 0, 0, 1), NO);
        LadderSky z = Due.told("base 1000;away 5;away 0;has 0 0 1 0;has 1 0 1 0;", "use 0;");
        Due.due("an H of 0 is one", z.without(0, 0, 0, 0), 0);
    }

    private static void noSpan() {
        LadderSky x = some();
        Edge.refuses("low", a -> x.span(a[0], a[1], a[2], false), NO, new int[] {0, 0, 0}, C, H, Y);
        Edge.refuses("high", a -> x.span(a[0], a[1], a[2], true), NO, new int[] {0, 0, 0}, C, H, Y);
        LadderSky y = one("away 5");
        Due.due("low of one", y.span(0, 0, 0, false), NO);
        Due.due("high of one", y.span(0, 0, 0, true), NO);
        Due.due("of nothing", x.span(1, 0, 0, false), NO);
        LadderSky z = Due.told("base 1;away 5;away 7;has 0 0 1 0;has 1 0 1 0;", "use 0;");
        Due.due("of fars of 0", z.span(0, 0, 0, true), NO);
        LadderSky w = Due.told("base 1000;away 0;away 0;has 0 0 1 0;has 1 0 1 0;", "use 0;");
        Due.due("a low of 0", w.span(0, 0, 0, false), 0);
        Due.due("a high of 0", w.span(0, 0, 0, true), 0);
    }

    private static void noOdd() {
        LadderSky x = some();
        Edge.refuses("odd", a -> x.odd(a[0], a[1], a[2], false), -1, new int[] {0, 0, 0}, C, H, Y);
        Edge.refuses("heavy", a -> x.odd(a[0], a[1], a[2], true), -1, new int[] {0, 0, 0}, C, H, Y);
        for (boolean heavy : new boolean[] {false, true}) {
            Due.due("none without the one", one("away 5").odd(0, 0, 0, heavy), -1);
            Due.due("no things", x.odd(0, 1, 0, heavy), -1);
            Due.due("of nothing", x.odd(1, 0, 0, heavy), -1);
            Due.due("no H", Due.told("base 1;away 5;away 7;has 0 0 1 0;has 1 0 1 0;", "use 0;").odd(0, 0, 0, heavy), -1);
        }
    }

    private static void noAge() {
        LadderSky x = some();
        Edge.refuses("age", a -> x.age(a[0], a[1], a[2]), -1, new int[] {0, 0, 0}, C, H, Y);
        Due.due("H of 0", one("away 0").age(0, 0, 0), -1);
        Due.due("H below 0", one("toward 1").age(0, 0, 0), -1);
        Due.due("H above 0", one("away 1").age(0, 0, 0), 100000);
        Due.due("no H", x.age(0, 1, 0), -1);
        Due.due("of nothing", x.age(1, 0, 0), -1);
    }

    private static void noBarred() {
        LadderSky x = some();
        Edge.refuses("barred", a -> x.barred(a[0], a[1], a[2]), -1, new int[] {0, 0, 0}, C, H, Y);
        Due.due("H of 0", one("away 0").barred(0, 0, 0), -1);
        Due.due("H below 0", one("toward 1").barred(0, 0, 0), -1);
        Due.due("H above 0, no stone so old", one("away 1").barred(0, 0, 0), 0);
        Due.due("no H", x.barred(0, 1, 0), -1);
        Due.due("of nothing", x.barred(1, 0, 0), -1);
    }

    private static void noUp() {
        LadderSky x = some();
        Edge.refuses("up", a -> x.up(a[0], a[1], a[2], a[3]), NO, new int[] {0, 0, 0, 0}, C, H, Y, R);
        Due.due("no H", x.up(0, 1, 0, 0), NO);
        Due.due("of no rungs", x.up(1, 0, 0, 0), NO);
        LadderSky y = Due.told("base 1000;base 1;away 1;has 0 0 100 0;", "use 0;throw farther 100;", "use 0;throw nearer 101;");
        Due.due("none with one more", y.up(0, 0, 0, 0), NO);
        Due.due("none but with one more", y.up(0, 1, 0, 0), NO);
        Due.due("an up of 0", y.up(0, 0, 0, 1), 0);
    }

    private static void noWorst() {
        LadderSky x = some();
        Edge.refuses("worst", a -> x.worst(a[0], a[1], a[2]), -1, new int[] {0, 0, 0}, C, H, Y);
        Due.due("no H", x.worst(0, 1, 0), -1);
        Due.due("no rungs", x.worst(1, 0, 0), -1);
        Due.due("thrown with one more", Due.told("base 1000;away 1;has 0 0 100 0;", "use 0;throw farther 100;").worst(0, 0, 0), -1);
        Due.due("an up of 0 is one", Due.told("base 1000;away 0;has 0 0 100 0;", "use 0;").worst(0, 0, 0), 0);
    }
}
