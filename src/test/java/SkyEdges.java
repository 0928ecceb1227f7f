/** Boundary sentences of promises 30 to 34 and 44 to 46, and of the 512 calls: skies and sayings. */
final class SkyEdges {
    private static final long NO = Edge.NO;

    private SkyEdges() {
    }

    /** Two skies, two houses, no catalogue. */
    private static LadderSky some() {
        LadderSky x = Edge.sky("light 100 1;light 999 9;speed 10;own 20;err 30;limit 40;tries 7;");
        Due.due("a second sky", Due.tell(x, 2, -1, "light 1 1;limit 9999;tries 1;"), 1);
        Due.due("a house", Due.tell(x, 1, -1, "use 0;use 1;"), 0);
        Due.due("a house that uses nothing", Due.tell(x, 1, -1, ""), 1);
        return x;
    }

    static void all() {
        skies();
        sayings();
        Edge.plain("What it is", "All of them run away: catalogues of smears of light told as texts, how fast each goes away or comes, what rungs of a ladder say of how far it is,"
            + " by which years that was known; rungs that stand on others by what both have; houses, told as texts, that use some rungs, lean here and there, throw out some things"
            + " by rules; the line through all, the further the faster, either way, how it spreads, who lies oddly, spans; how a lean goes up, where two houses part, since when a"
            + " number stands; a rung that is two sorts; stones that bar an age; what a faint limit chooses; skies, told as texts, made by seeds, many of them; odds by all orders;"
            + " what was said with spans and how it went; another number beside; the thing to look at next.");
        Edge.of("What it is", "An object is used for at most 512 calls after it has been made; what later calls answer is free.", SkyEdges::manyCalls);
    }

    private static void skies() {
        Edge.plain("Promise 30", "Of a SKY, what 0: sorts of LIGHTS, 1: H0, 2: OWN, 3: ERR, 4: LIMIT, 5: TRIES, 10 + k, 20 + k: how bright LIGHTS k are, how many.");
        Edge.of("Promise 30", "NONE: there is none such, or for another what.", SkyEdges::noSky);
        Edge.plain("Promise 31", "SEEN (how many).");
        Edge.of("Promise 31", "NONE: there is none such (of either).", SkyEdges::noneSeen);
        Edge.plain("Promise 32", "CHOSEN, or (all) IN ALL, above, or (under) below the line.");
        Edge.of("Promise 32", "NONE: none are SEEN, or there is none such (of either).", SkyEdges::noneChosen);
        Edge.of("Promise 33", "A CATALOGUE is MADE, a further one (at NONE), or in the place of one: its number.", SkyEdges::made);
        Edge.of("Promise 33", "NONE: there is none such (of either), or there are 3.", SkyEdges::notMade);
        Edge.of("Promise 34", "WORLDS, n 1 .. 20.", SkyEdges::oneToTwenty);
        Edge.of("Promise 34", "NONE: there is none such (of any), for another what, or (1) there are none.", SkyEdges::noWorlds);
    }

    private static void sayings() {
        Edge.of("Promise 44", "A SAYING: its number.", SkyEdges::sayingNumbers);
        Edge.of("Promise 44", "NONE: there are 16, there is no such HOUSE, or other numbers.", SkyEdges::notSaid);
        Edge.plain("Promise 45", "Of SAYINGS by a CATALOGUE, what 0: how many are KEPT, 1: how many have an H, 2: WIDER, 10 + k: 1 if SAYING k is KEPT, else 0, 30 + k: UNTIL of it.");
        Edge.of("Promise 45", "NONE: there is none such (of either), none is wide enough, in none, or for another what.", SkyEdges::notKept);
        Edge.plain("Promise 46", "BESIDE.");
        Edge.of("Promise 46", "-2000000000: there is no H, low is above high, or there is none such (of any).", SkyEdges::notBeside);
    }

    private static void noSky() {
        LadderSky x = some();
        Edge.refuses("sky", a -> x.sky(a[0], a[1]), -1, new int[] {0, 0}, Edge.but(2),
            new int[] {6, 7, 9, 12, 15, 16, 19, 22, 25, 26, 30, -1, -10, Integer.MIN_VALUE, Integer.MAX_VALUE});
        int[][] due = {{0, 2}, {1, 10}, {2, 20}, {3, 30}, {4, 40}, {5, 7}, {10, 100}, {11, 999}, {20, 1}, {21, 9}};
        for (int[] d : due) {
            Due.due("sky " + d[0], x.sky(0, d[0]), d[1]);
        }
        Due.due("no sky yet", new LadderSky().sky(0, 0), -1);
    }

    private static void noneSeen() {
        LadderSky x = some();
        Edge.refuses("seen", a -> x.seen(a[0], a[1]), -1, new int[] {0, 1}, Edge.but(2), new int[] {0, -1, 201, 202, -200, Integer.MIN_VALUE, Integer.MAX_VALUE});
        Due.due("none, but there is such a one", x.seen(1, 200), 0);
        Due.due("the last", x.seen(0, 200), 9);
    }

    private static void noneChosen() {
        LadderSky x = some();
        for (int i = 0; i < 2; i++) {
            boolean under = i == 1;
            Edge.refuses("chosen", a -> x.chosen(a[0], a[1], false, under), -1, new int[] {0, 200}, Edge.but(2), new int[] {0, -1, 201, Integer.MIN_VALUE, Integer.MAX_VALUE});
            Edge.refuses("in all", a -> x.chosen(a[0], a[1], true, under), -1, new int[] {0, 60}, Edge.but(2), new int[] {0, -1, 61, 200, 201, Integer.MIN_VALUE, Integer.MAX_VALUE});
            Due.due("none are seen at 2", x.chosen(1, 2, false, under), -1);
            Due.due("one is at 1", x.chosen(1, 1, false, under), 1);
            Due.due("and so to 2", x.chosen(1, 2, true, under), 1);
        }
    }

    private static void made() {
        LadderSky x = some();
        for (int i = 0; i < 3; i++) {
            Due.due("a further one", x.make(0, -1, i), i);
        }
        for (int i = 0; i < 3; i++) {
            Due.due("in the place of " + i, x.make(1, i, 0), i);
            Due.due("made of the second sky", x.about(i, 1) <= 1, true);
        }
        Due.due("three", x.count(0), 3);
        // beside texts: the tape and the fault stay
        LadderSky y = some();
        Due.tell(y, 0, -1, "base 0;");
        Due.tape(y, "base 77;");
        Due.due("made", y.make(0, -1, 5), 0);
        Due.due("the fault stays", y.fault(0), 2);
        Due.due("the tape stays", y.text(0, -1), 1);
        Due.due("its base", y.about(1, 10), 177);
        // nothing of what stood there is left
        LadderSky z = some();
        Due.tell(z, 0, -1, "base 1;base 2;base 3;away 1;away 2;stone 1;has 1 2 1 1;");
        Due.due("in its place", z.make(1, 0, 3), 0);
        Due.due("two rungs", z.about(0, 0), 2);
        Due.due("no stones", z.about(0, 2), 0);
    }

    private static void notMade() {
        LadderSky x = some();
        for (int at : new int[] {0, 1, 2, -2, Integer.MIN_VALUE, Integer.MAX_VALUE}) {
            Due.due("in the place of none, " + at, x.make(0, at, 5), -1);
        }
        for (int sky : Edge.but(2)) {
            Due.due("of no sky " + sky, x.make(sky, -1, 5), -1);
        }
        Due.due("none was made", x.count(0), 0);
        for (int i = 0; i < 3; i++) {
            x.make(0, -1, i);
        }
        Due.due("there are three", x.make(0, -1, 5), -1);
        for (int at : new int[] {3, 4, -2, Integer.MIN_VALUE, Integer.MAX_VALUE}) {
            Due.due("in the place of none, " + at, x.make(0, at, 5), -1);
        }
        for (int sky : Edge.but(2)) {
            Due.due("in place, of no sky " + sky, x.make(sky, 0, 5), -1);
        }
        Due.due("three", x.count(0), 3);
        // three told by texts are three, too
        LadderSky y = some();
        for (int i = 0; i < 3; i++) {
            Due.tell(y, 0, -1, "base 1;");
        }
        Due.due("no further one", y.make(0, -1, 5), -1);
        Due.due("in place", y.make(0, 2, 5), 2);
    }

    private static void oneToTwenty() {
        LadderSky x = Edge.sky("light 999 9;speed 100;");
        Due.tell(x, 1, -1, "use 0;use 1;");
        for (int what = 0; what < 3; what++) {
            Due.due("1", x.worlds(0, 0, 5, 1, what) >= 0, true);
            Due.due("20", x.worlds(0, 0, 5, 20, what) >= 0, true);
            for (int n : new int[] {0, -1, 21, 22, Integer.MIN_VALUE, Integer.MAX_VALUE}) {
                Due.due("n of " + n, x.worlds(0, 0, 5, n, what), -1);
            }
        }
        Due.due("all of 20 have an H", x.worlds(0, 0, 5, 20, 0), 20);
        Due.due("one has", x.worlds(0, 0, 5, 1, 0), 1);
        Due.due("no catalogue came", x.count(0), 0);
    }

    private static void noWorlds() {
        LadderSky x = some();
        for (int i = 0; i < 3; i++) {
            int what = i;
            Edge.refuses("worlds", a -> x.worlds(a[0], a[1], 5, a[2], what), -1, new int[] {0, 0, 3}, Edge.but(2), Edge.but(2), new int[] {0, 21});
        }
        Edge.refuses("worlds", a -> x.worlds(0, 0, 5, 3, a[0]), -1, new int[] {0}, Edge.but(3));
        Due.due("none, how many", x.worlds(0, 1, 5, 20, 0), 0);
        Due.due("none, together", x.worlds(0, 1, 5, 20, 1), -1);
        Due.due("none, hit", x.worlds(0, 1, 5, 20, 2), 0);
        // seeds are any numbers
        for (int seed : new int[] {0, -1, Integer.MIN_VALUE, Integer.MAX_VALUE}) {
            Due.due("by seed " + seed, x.worlds(0, 0, seed, 20, 0) >= 0, true);
        }
    }

    private static void sayingNumbers() {
        LadderSky x = some();
        for (int i = 0; i < 16; i++) {
            Due.due("saying " + i, x.say(i % 2, 0, -1, 1), i);
        }
    }

    private static void notSaid() {
        LadderSky x = some();
        int[] lows = {5, 6, 1000000, -1000000, Integer.MIN_VALUE, Integer.MAX_VALUE};
        int[] highs = {3, 2, -999999, 1000000, Integer.MIN_VALUE, Integer.MAX_VALUE};
        Edge.refuses("say", a -> x.say(a[0], a[1], a[2], a[3]), -1, new int[] {0, 0, 3, 5}, Edge.but(2), Edge.butYears(), lows, highs);
        Due.due("one alone was said", x.count(3), 1);
        for (int i = 1; i < 16; i++) {
            x.say(0, 99, -999999, 999999);
        }
        Due.due("there are 16", x.say(0, 0, 3, 5), -1);
        Due.due("16", x.count(3), 16);
        Due.due("no house", new LadderSky().say(0, 0, 3, 5), -1);
    }

    private static void notKept() {
        LadderSky x = Due.told("base 1000;away 90;has 0 0 10 0;", "use 0;", "");
        Due.tell(x, 0, -1, "");
        x.say(0, 0, 8000, 10000);
        x.say(1, 0, 8000, 10000);
        Edge.refuses("kept", a -> x.kept(a[0], a[1]), -1, new int[] {0, 0}, Edge.but(2),
            new int[] {3, 4, 9, 12, 13, 25, 26, 29, 30, 32, 33, 45, 46, -1, -10, Integer.MIN_VALUE, Integer.MAX_VALUE});
        int[][] due = {{0, 1}, {1, 1}, {2, 0}, {10, 1}, {11, 0}, {30, -1}, {31, 0}};
        for (int[] d : due) {
            Due.due("kept " + d[0], x.kept(0, d[0]), d[1]);
        }
        Due.due("of nothing none is kept", x.kept(1, 0), 0);
        Due.due("of nothing none has an H", x.kept(1, 1), 0);
        Due.due("of nothing none need be wider", x.kept(1, 2), 0);
        x.say(0, 0, 1, 2);
        Due.due("none is wide enough", x.kept(0, 2), -1);
        Due.due("until in none", x.kept(0, 30), -1);
        Due.due("until at once", x.kept(0, 32), 0);
        for (int i = 3; i < 16; i++) {
            x.say(0, 0, 8000, 10000);
        }
        Due.due("the last of 16", x.kept(0, 25), 1);
        Due.due("behind it", x.kept(0, 26), -1);
        Due.due("until of the last", x.kept(0, 45), -1);
        Due.due("ahead of the first until", x.kept(0, 29), -1);
        Due.due("14 kept", x.kept(0, 0), 14);
        Due.due("15 with an H", x.kept(0, 1), 15);
    }

    private static void notBeside() {
        LadderSky x = Due.told("base 1000;away 90;has 0 0 10 5;", "use 0;", "");
        Edge.refuses("beside", a -> x.beside(a[0], a[1], a[2], a[3], a[4]), NO, new int[] {0, 0, 5, 3, 4}, Edge.but(1), Edge.but(2), Edge.butYears(),
            new int[] {5, 6, Integer.MAX_VALUE}, new int[] {2, 1, -1, Integer.MIN_VALUE});
        Due.due("no H by 4", x.beside(0, 0, 4, 3, 4), NO);
        Due.due("no H of the other", x.beside(0, 1, 5, 3, 4), NO);
        Due.due("low is high", x.beside(0, 0, 5, 9000, 9000), 0);
        Due.due("low above high by one", x.beside(0, 0, 5, 9001, 9000), NO);
        Due.due("all numbers", x.beside(0, 0, 5, Integer.MAX_VALUE, Integer.MIN_VALUE), NO);
    }

    /** The 512th call is answered as the first would be; those behind it are free, but must not throw. */
    private static void manyCalls() {
        LadderSky x = new LadderSky();
        int calls = 0;
        while (calls < 512) {
            calls++;
            if (calls % 3 == 1) {
                Due.due("call " + calls, x.feed(0x20202020, 0x20202020, 0x20202020, 0x20202020, 0x20202020), 20);
            } else if (calls % 3 == 2) {
                Due.due("call " + calls, x.text(0, calls == 2 ? -1 : 0), 0);
            } else {
                Due.due("call " + calls, x.count(0), 1);
            }
        }
        for (int more = 0; more < 5000; more++) {
            x.feed(0, 0, 0, 0, 0);
            x.text(more % 4, more % 5 - 1);
            x.image(more % 3);
            x.again(more % 3);
            x.make(0, 0, more);
            x.worlds(0, 0, more, 20, more % 3);
        }
        Due.due("none threw", true, true);
    }
}
