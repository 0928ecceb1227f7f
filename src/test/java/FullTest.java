/** Every call about a catalogue that has as many rungs, things, stones and entries as may be, by houses with as many rules as may be. */
public final class FullTest {
    private static final String ALL = "use 0;use 1;use 2;use 3;use 4;use 5;";

    private FullTest() {
    }

    /** Six bases, 24 things of speed 10 with a raw of 1 by each; of the last thing the speed is 20. */
    private static LadderSky full(String... houses) {
        LadderSky x = Due.told("base 1000;".repeat(6) + "away 10;".repeat(23) + "away 20;" + "stone 9999;".repeat(4), houses);
        for (int thing = 0; thing < 24; thing++) {
            for (int rung = 0; rung < 6; rung++) {
                x.has(0, thing, rung, 1, 99);
            }
        }
        return x;
    }

    private static void theLine() {
        LadderSky x = full(ALL, ALL + "way mean;", ALL + "way last;");
        Due.due("entries", x.about(0, 3), 144);
        for (int house = 0; house < 3; house++) {
            Due.due("no things by 98", x.line(0, house, 98, 0), 0);
            Due.due("things", x.line(0, house, 99, 0), 24);
            Due.due("H: 250 by 24", x.line(0, house, 99, 1), 10416);
            Due.due("turned: 2700 by 250", x.line(0, house, 99, 2), 10800);
            Due.due("crossed", x.line(0, house, 99, 3), Edge.NO);
            Due.due("left of the last", x.left(0, house, 99, 23), 10);
            Due.due("spread", x.spread(0, house, 99), 100);
            Due.due("without the last", x.without(0, house, 99, 23), 10000);
            Due.due("low", x.span(0, house, 99, false), 10000);
            Due.due("high: 240 by 23", x.span(0, house, 99, true), 10434);
            Due.due("odd", x.odd(0, house, 99, false), 23);
            Due.due("heavy", x.odd(0, house, 99, true), 23);
            Due.due("age", x.age(0, house, 99), 9600);
            Due.due("barred", x.barred(0, house, 99), 15);
            Due.due("middle", x.middle(0, house, 99), 10000);
            Due.due("chance", x.chance(0, house, 99), -1);
            Due.due("far of the last", x.far(0, house, 99, 23, -1), 1);
            Due.due("far of the last by the last", x.far(0, house, 99, 23, 5), 1);
            Due.due("scale of the last", x.scale(0, house, 99, 5), 1000);
        }
    }

    private static void housesAndYears() {
        LadderSky x = full(ALL, ALL + "way last;", ALL + "cast 23;", ALL + "lean 5 up 50;way last;");
        Due.due("up 5", x.up(0, 0, 99, 5), 0);
        Due.due("worst", x.worst(0, 1, 99), 0);
        Due.due("part", x.part(0, 1, 0, 99), 0);
        Due.due("agree", x.agree(0, 0, 1, 99), true);
        Due.due("agree with one that has cast", x.agree(0, 0, 2, 99), true);
        Due.due("across", x.across(0, 0, 3, 99), 0);
        Due.due("path", x.path(0, 1, 3, 99, 5), 10416);
        Due.due("strait", x.strait(0, 1, 99), 0);
        Due.due("since", x.since(0, 0), 99);
        Due.due("stands", x.stands(0, 0, 0), 99);
        Due.due("changes", x.changes(0, 0), 1);
        Due.due("next", x.next(0, 0, 99), -1);
        Due.due("next of the cast", x.next(0, 2, 99), -1);
        Due.due("sorts", x.sorts(0, 0, 99, 5, 1), 24);
        Due.due("k", x.sorts(0, 0, 99, 5, 0), 1);
        Due.due("the last of the sorts", x.sorts(0, 0, 99, 5, 33), 23);
        Due.due("behind it", x.sorts(0, 0, 99, 5, 34), -1);
        Due.due("alike", x.alike(0, 0, 99, 5), -1);
        Due.due("heaps", x.heaps(0, 0, 99, 5, 99), (1 << 24) - 1);
        Due.due("beside", x.beside(0, 0, 99, 0, 10000), 416);
        // the last thing alone
        for (int thing = 0; thing < 23; thing++) {
            x.cast(2, thing, true);
        }
        x.cast(2, 23, false);
        Due.due("one", x.line(0, 2, 99, 0), 1);
        Due.due("20 by 1", x.line(0, 2, 99, 1), 20000);
        Due.due("across the last alone", x.across(0, 2, 0, 99), 23);
    }

    private static void rules() {
        String odd = ALL + "throw odd 9;".repeat(8);
        LadderSky x = full(odd, ALL + "throw odd 1;", ALL + "throw slower 20;", ALL + "throw faster 10;", ALL + "throw nearer 2;", ALL + "throw farther 0;");
        int[] left = {1, 23, 1, 23, 0, 0};
        for (int house = 0; house < left.length; house++) {
            Due.due("left by house " + house, x.line(0, house, 99, 0), left[house]);
        }
        Due.due("the odd one went", x.far(0, 1, 99, 23, -1), -1);
        Due.due("thing 22 is left", x.far(0, 0, 99, 22, -1), 1);
        Due.due("the fast one is left", x.far(0, 2, 99, 23, -1), 1);
        Due.due("the fast one went", x.far(0, 3, 99, 23, -1), -1);
        Due.due("next is the first thrown", x.next(0, 0, 99), 0);
        Due.due("next is the one thrown", x.next(0, 1, 99), 23);
        Due.due("changes", x.changes(0, 0), 1);
        Due.due("up", x.up(0, 0, 99, 0), 0);
        for (int i = 0; i < 16; i++) {
            Due.due("say", x.say(0, i, 10000, 10001), i);
        }
        Due.due("kept", x.kept(0, 0), 16);
        Due.due("wider: 100 by 1", x.kept(0, 2), 100);
        Due.due("until of the last", x.kept(0, 45), 15);
    }

    public static void main(String[] args) {
        theLine();
        housesAndYears();
        rules();
        Due.close("FullTest");
    }
}
