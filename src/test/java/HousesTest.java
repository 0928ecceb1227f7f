/** Promises 25 to 28 and 39 to 43: two houses, years, what is left out and what is next. */
public final class HousesTest {
    private static final long NO = -2000000000L;

    private static void parting() {
        String text = "base 1000;base 1000;away 100;away 200;has 0 0 10 0;has 1 0 20 0;has 0 1 5 0;has 1 1 20 5;";
        LadderSky x = Due.told(text, "use 0;", "use 0;use 1;lean 0 up 10;", "use 0;way mean;", "use 0;use 1;lean 1 up 1;", "", "use 1;way last;");
        Due.due("the lean of rung 0", x.part(0, 0, 1, 5), 0);
        Due.due("path to 0", x.path(0, 0, 1, 5, 0), 9090);
        Due.due("path to 1", x.path(0, 0, 1, 5, 1), 9090);
        Due.due("use of rung 1 by a mean", x.part(0, 2, 3, 5), 1);
        Due.due("path to 0", x.path(0, 2, 3, 5, 0), 10000);
        Due.due("path to 1", x.path(0, 2, 3, 5, 1), 10467);
        Due.due("the same: least", x.part(0, 0, 0, 5), 0);
        Due.due("without rung 0 there is none, so 1", x.part(0, 0, 4, 5), 1);
        Due.due("path to none", x.path(0, 0, 4, 5, 0), NO);
        Due.due("path from none", x.path(0, 4, 0, 5, 0), 10000);
        Due.due("no H of a", x.part(0, 4, 0, 5), -1);
        // 100 by 5 alone, then 200 by 20 too: 4500 by 425
        Due.due("path by year 4", x.path(0, 5, 4, 4, 0), 20000);
        Due.due("path by year 5", x.path(0, 5, 4, 5, 0), 10588);
        Due.due("it is unused behind 1", x.path(0, 5, 4, 5, 1), NO);
        Due.due("leans of the house stay", x.of(0, 10), 0);
        int[][] wrong = {{1, 0, 0, 0}, {-1, 0, 0, 0}, {0, 6, 0, 0}, {0, -1, 0, 0}, {0, 0, 6, 0}, {0, 0, -1, 0}, {0, 0, 0, 100}, {0, 0, 0, -1}};
        for (int[] w : wrong) {
            Due.due("part of none", x.part(w[0], w[1], w[2], w[3]), -1);
            Due.due("agree of none", x.agree(w[0], w[1], w[2], w[3]), false);
            Due.due("across of none", x.across(w[0], w[1], w[2], w[3]), -1);
            Due.due("path of none", x.path(w[0], w[1], w[2], w[3], 0), NO);
        }
        Due.due("path to rung 2", x.path(0, 0, 1, 5, 2), NO);
        Due.due("path to rung -1", x.path(0, 0, 1, 5, -1), NO);
        LadderSky y = Due.told("base 1000;away 1;has 0 0 1 0;", "use 0;", "");
        Due.due("none by any rung", y.part(0, 0, 1, 0), -1);
    }

    private static void agreeing() {
        LadderSky x = Due.told("base 1000;base 2000;base 1000;away 100;away 200;has 0 0 10 0;has 1 0 10 0;has 0 1 10 0;has 1 1 10 0;has 0 2 10 0;",
            "use 0;", "use 1;", "use 2;");
        Due.due("low a", x.span(0, 0, 0, false), 10000);
        Due.due("high b", x.span(0, 1, 0, true), 10000);
        Due.due("they touch", x.agree(0, 0, 1, 0), true);
        Due.due("either way", x.agree(0, 1, 0, 0), true);
        x.lean(1, 1, 5);
        Due.due("high b", x.span(0, 1, 0, true), 9523);
        Due.due("they part", x.agree(0, 0, 1, 0), false);
        Due.due("either way", x.agree(0, 1, 0, 0), false);
        Due.due("one has no low", x.agree(0, 0, 2, 0), false);
        Due.due("either way", x.agree(0, 2, 0, 0), false);
        Due.due("with itself", x.agree(0, 0, 0, 0), true);
        Due.due("with itself without low", x.agree(0, 2, 2, 0), false);
    }

    private static void years() {
        String[] ways = {"away", "toward"};
        for (String way : ways) {
            LadderSky x = Due.told("base 1000;" + (way + " 100;").repeat(4) + "has 0 0 10 0;has 1 0 10 10;has 2 0 11 20;has 3 0 5 30;", "use 0;", "");
            int sign = way.equals("away") ? 1 : -1;
            Due.due("by 19", x.line(0, 0, 19, 1), sign * 10000);
            Due.due("by 29", x.line(0, 0, 29, 1), sign * 9657);
            Due.due("by 30", x.line(0, 0, 30, 1), sign * 10404);
            Due.due("since", x.since(0, 0), 0);
            Due.due("changes", x.changes(0, 0), 2);
            int[][] stands = {{0, 30}, {5, 30}, {7, 30}, {8, 0}, {100, 0}, {-1, -1}, {101, -1}};
            for (int[] s : stands) {
                Due.due("stands by " + s[0], x.stands(0, 0, s[0]), s[1]);
            }
            Due.due("never since", x.since(0, 1), -1);
            Due.due("never stands", x.stands(0, 1, 50), -1);
            Due.due("never changes", x.changes(0, 1), 0);
        }
        LadderSky y = Due.told("base 1000;away 100;away 200;has 0 0 10 99;", "use 0;");
        Due.due("since the last", y.since(0, 0), 99);
        Due.due("stands since the last", y.stands(0, 0, 100), 99);
        Due.due("changes in the last", y.changes(0, 0), 1);
        y.has(0, 1, 0, 10, 3);
        Due.due("since", y.since(0, 0), 3);
        // 20000, then 3000 by 200
        Due.due("stands by 33", y.stands(0, 0, 33), 99);
        Due.due("stands by 34", y.stands(0, 0, 34), 3);
        Due.due("changes", y.changes(0, 0), 2);
        // 10500, then 10000: 5 of 100 are just enough
        LadderSky u = Due.told("base 1000;base 1000;away 210;has 0 0 20 0;has 0 1 21 5;", "use 0;use 1;way last;");
        Due.due("stands by 5", u.stands(0, 0, 5), 0);
        Due.due("stands by 4", u.stands(0, 0, 4), 5);
        LadderSky z = Due.told("base 1000;on 0;away 100;away 100;has 0 1 10 0;has 0 0 10 7;has 1 0 5 50;", "use 1;", "use 0;use 1;way last;", "use 0;throw slower 100;throw nearer 6;");
        Due.due("the rung below came later", z.since(0, 0), 7);
        Due.due("stands since", z.stands(0, 0, 0), 7);
        Due.due("rules by years", z.stands(0, 2, 0), 7);
        Due.due("two changes", z.changes(0, 1), 2);
        int[][] wrong = {{1, 0}, {-1, 0}, {0, 3}, {0, -1}};
        for (int[] w : wrong) {
            Due.due("since of none", z.since(w[0], w[1]), -1);
            Due.due("stands of none", z.stands(w[0], w[1], 5), -1);
            Due.due("changes of none", z.changes(w[0], w[1]), -1);
        }
        // an H that stops being there: a rule throws what a later entry moves
        LadderSky v = Due.told("base 1000;away 1;has 0 0 9 1;base 1000;has 0 1 99 5;", "use 0;use 1;way last;throw farther 50;");
        Due.due("there by 4", v.line(0, 0, 4, 0), 1);
        Due.due("gone by 5", v.line(0, 0, 5, 0), 0);
        Due.due("since", v.since(0, 0), 1);
        Due.due("stands not", v.stands(0, 0, 100), -1);
        Due.due("came and went", v.changes(0, 0), 2);
    }

    private static void acrossHouses() {
        LadderSky x = Due.told("base 1000;base 1000;base 1;away 1;away 1;away 1;has 0 0 10 0;has 1 0 20 0;has 2 0 7 0;"
            + "has 0 1 12 0;has 1 1 10 0;has 2 1 7 0;has 0 2 5 0;", "use 0;", "use 1;", "use 1;cast 1;", "use 2;", "");
        Due.due("500 of 1000", x.across(0, 0, 1, 0), 1);
        Due.due("by 10 the other way: 1000", x.across(0, 1, 0, 0), 1);
        Due.due("200 of 1000", x.across(0, 0, 2, 0), 0);
        Due.due("with itself the least", x.across(0, 0, 0, 0), 0);
        Due.due("a far of 0 of b", x.across(0, 0, 3, 0), 0);
        Due.due("a far of 0 of a", x.across(0, 3, 0, 0), -1);
        Due.due("nothing", x.across(0, 0, 4, 0), -1);
        Due.due("of nothing", x.across(0, 4, 0, 0), -1);
        // 333.3 and 333.9 are both 333, cut
        LadderSky y = Due.told("base 1000;base 1000;away 1;away 1;has 0 0 3 0;has 0 1 4 0;has 1 0 1000 0;has 1 1 1333 0;", "use 0;", "use 1;");
        Due.due("cut alike: the least", y.across(0, 0, 1, 0), 0);
        y.has(0, 1, 0, 9999, 0);
        y.has(0, 1, 1, 6660, 0);
        Due.due("333.9 is cut, too", y.across(0, 0, 1, 0), 0);
        y.has(0, 1, 0, 1000, 0);
        y.has(0, 1, 1, 1334, 0);
        Due.due("334", y.across(0, 0, 1, 0), 1);
    }

    private static void straits() {
        LadderSky x = Due.told("base 1000;base 1000;base 1000;away 100;away 200;has 0 0 10 0;has 1 0 20 0;has 0 1 10 0;has 1 1 40 0;", "use 0;use 1;", "use 0;",
            "use 0;use 1;use 2;use 5;", "use 2;use 5;");
        Due.due("without 0: 5000 to 10000, without 1: 0", x.strait(0, 0, 0), 1);
        Due.due("nothing is left", x.strait(0, 1, 0), -1);
        Due.due("of several the least", x.strait(0, 2, 0), 1);
        Due.due("none", x.strait(0, 3, 0), -1);
        Due.due("uses stay", x.of(0, 0), 3);
        // only rungs that the house uses
        LadderSky y = Due.told("base 1000;base 1000;away 100;away 200;has 0 1 10 0;has 1 1 20 0;", "use 1;", "use 0;use 1;");
        Due.due("rung 0 is not used", y.strait(0, 0, 0), -1);
        Due.due("rung 0 is used", y.strait(0, 1, 0), 0);
        int[][] wrong = {{1, 0, 0}, {-1, 0, 0}, {0, 2, 0}, {0, -1, 0}, {0, 0, 100}, {0, 0, -1}};
        for (int[] w : wrong) {
            Due.due("strait of none", y.strait(w[0], w[1], w[2]), -1);
            Due.due("next of none", y.next(w[0], w[1], w[2]), -1);
        }
    }

    private static void theNext() {
        LadderSky x = Due.told("base 1000;away 100;away 210;away 300;toward 50;has 0 0 10 0;has 1 0 20 0;has 2 0 1 9;", "use 0;", "");
        Due.due("241 against 995", x.next(0, 0, 0), 2);
        x.cast(0, 2, true);
        Due.due("not the cast", x.next(0, 0, 0), 3);
        x.cast(0, 3, true);
        Due.due("none is left", x.next(0, 0, 0), -1);
        x.cast(0, 2, false);
        Due.due("it has a far by 9", x.next(0, 0, 9), -1);
        Due.due("no H", x.next(0, 1, 0), -1);
        Due.due("the line is as it was", x.line(0, 0, 0, 0), 2);
        // thrown ones count, and rules do not throw them again
        LadderSky y = Due.told("base 1000;away 100;away 210;away 300;has 0 0 10 0;has 1 0 20 0;has 2 0 1 0;", "use 0;throw nearer 5;throw faster 250;");
        Due.due("a thrown one", y.next(0, 0, 0), 2);
        LadderSky z = Due.told("base 1000;away 0;away 5;has 0 0 1 0;", "use 0;");
        Due.due("H of 0", z.next(0, 0, 0), -1);
        LadderSky v = Due.told("base 1000;away 10;away 20;away 20;has 0 0 1 0;", "use 0;");
        Due.due("of several the least", v.next(0, 0, 0), 1);
    }

    public static void main(String[] args) {
        parting();
        agreeing();
        years();
        acrossHouses();
        straits();
        theNext();
        Due.close("HousesTest");
    }
}
