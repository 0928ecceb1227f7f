/** Boundary sentences of promises 1 to 12 and 47 to 49, and of the 512 calls: what is told, changed, counted, kept in images. */
final class ToldEdges {
    /** Two catalogues, two houses: of the first two rungs, three things, one stone, two entries. */
    private static LadderSky some() {
        LadderSky x = Due.told("base 1000;on 0;away 10;toward 20;away 0;stone 7;has 0 0 5 50;has 1 1 6 60;", "use 0;", "use 1;lean 1 up 3;cast 2;throw odd 1;");
        Due.due("a second catalogue", Due.tell(x, 0, -1, "base 5;"), 1);
        return x;
    }

    private ToldEdges() {
    }

    static void all() {
        Edge.of("Constants", "The constants: `NONE = -1`: There is none.", () -> Due.due("NONE", LadderSky.NONE, -1));
        Edge.of("Promise 1", "No CATALOGUES, HOUSES, SKIES, SAYINGS; no images.", ToldEdges::nothing);
        tape();
        contents();
        changes();
        images();
    }

    private static void tape() {
        Edge.of("Promise 2", "The tape: twenty bytes come behind it, of each number the highest first: how many it has.", ToldEdges::twentyBytes);
        Edge.of("Promise 2", "NONE, and nothing comes, if there would be more than 500.", ToldEdges::tooManyBytes);
        Edge.of("Promise 3", "The tape has its first n bytes alone: n.", ToldEdges::firstBytes);
        Edge.of("Promise 3", "NONE if it has not so many, or n is below 0.", ToldEdges::notSoMany);
        Edge.of("Promise 4", "The tape is taken (and is empty then), as a CATALOGUE (sort 0), a HOUSE (1), a SKY (2), a further one (at NONE), or in the place of one: its number.",
            ToldEdges::taken);
        Edge.of("Promise 4", "NONE: a FAULT.", ToldEdges::faultyTexts);
        Edge.of("Promise 4", "-2: there is none such, there are as many as may be, or no such sort (no text is read then, FAULT 0).", ToldEdges::refusedTexts);
        Edge.of("Promise 5", "Of the latest text(), what 0: the FAULT, 0 without, 1: its place, NONE without.", ToldEdges::latestFault);
        Edge.of("Promise 5", "NONE for another what.", ToldEdges::otherFaults);
    }

    private static void contents() {
        Edge.plain("Promise 6", "Of a CATALOGUE, what 0: RUNGS, 1: THINGS, 2: STONES, 3: ENTRIES, 10 + r: on which RUNG r stands (100 + SCALE of a base), 20 + s: age of STONE s.");
        Edge.of("Promise 6", "NONE: there is none such, or for another what.", ToldEdges::aboutNone);
        Edge.plain("Promise 7", "SPEED.");
        Edge.of("Promise 7", "-10000: there is none such (of either).", ToldEdges::noSpeed);
        Edge.plain("Promise 8", "RAW of an ENTRY, or (year) its YEAR.");
        Edge.of("Promise 8", "NONE: there is none such (of any).", ToldEdges::noEntry);
    }

    private static void changes() {
        Edge.of("Promise 9", "An ENTRY, as by a text: true;", ToldEdges::asByText);
        Edge.of("Promise 9", "false: there is none such, or other numbers.", ToldEdges::otherEntries);
        Edge.of("Promise 10", "A LEAN of a HOUSE: true;", ToldEdges::leaning);
        Edge.of("Promise 10", "false: there is none such (of either), or another number.", ToldEdges::otherLeans);
        Edge.of("Promise 11", "A THING, 0 .. 23, is CAST by a HOUSE from now on, or not: whether that is new.", ToldEdges::newCasts);
        Edge.of("Promise 11", "False, too, if there is none such (of either).", ToldEdges::otherCasts);
        Edge.plain("Promise 12", "Of a HOUSE, what 0: USES, 1: WAY, 2: CAST, 3: RULES, 10 + r: LEAN of RUNG r.");
        Edge.of("Promise 12", "-100: there is none such, or for another what.", ToldEdges::ofNone);
    }

    private static void images() {
        Edge.plain("Promise 47", "How many: 0 CATALOGUES, 1 HOUSES, 2 SKIES, 3 SAYINGS.");
        Edge.of("Promise 47", "-2 for another what.", ToldEdges::otherCounts);
        Edge.of("Promise 48", "Image k (0 .. 2) is all that is told (the tape, the FAULT, too), as it is now: true;", ToldEdges::imageOfAll);
        Edge.of("Promise 48", "false for another k.", ToldEdges::otherImages);
        Edge.of("Promise 49", "All that is as image k has it (other images stay): true;", ToldEdges::asTheImage);
        Edge.of("Promise 49", "false if there is none such.", ToldEdges::noImage);
    }

    private static void nothing() {
        LadderSky x = new LadderSky();
        for (int what = 0; what < 4; what++) {
            Due.due("count " + what, x.count(what), 0);
        }
        for (int k = 0; k < 3; k++) {
            Due.due("again " + k, x.again(k), false);
        }
        Due.due("no fault", x.fault(0), 0);
        Due.due("no place", x.fault(1), -1);
        Due.due("no byte", x.end(1), -1);
        Due.due("no catalogue", x.about(0, 0), -1);
        Due.due("no house", x.of(0, 0), -100);
        Due.due("no sky", x.sky(0, 0), -1);
        Due.due("no house to say", x.say(0, 0, 1, 2), -1);
        // another object's are its own
        LadderSky y = some();
        y.image(0);
        Due.due("none of another object", new LadderSky().count(0), 0);
        Due.due("no image of another object", new LadderSky().again(0), false);
    }

    private static void twentyBytes() {
        LadderSky x = new LadderSky();
        for (int i = 1; i <= 25; i++) {
            Due.due("feed " + i, x.feed(0, 0, 0, 0, 0), 20 * i);
        }
        // "base", " 12;", "away", " 3;a", "way " and "4;" behind it
        LadderSky y = new LadderSky();
        Due.due("first", y.feed(0x62617365, 0x2031323b, 0x61776179, 0x20333b61, 0x77617920), 20);
        Due.due("behind it", y.feed(0x343b2020, 0x20202020, 0x20202020, 0x20202020, 0x20202020), 40);
        Due.due("text", y.text(0, -1), 0);
        Due.due("base", y.about(0, 10), 112);
        Due.due("speed 0", y.speed(0, 0), 3);
        Due.due("speed 1", y.speed(0, 1), 4);
        // bytes come behind those that an end left
        LadderSky z = new LadderSky();
        z.feed(0x62617365, 0x2d2d2d2d, 0, 0, 0);
        z.end(4);
        Due.due("behind four", z.feed(0x20373b20, 0x20202020, 0x20202020, 0x20202020, 0x20202020), 24);
        Due.due("text", z.text(0, -1), 0);
        Due.due("base", z.about(0, 10), 107);
    }

    private static void tooManyBytes() {
        LadderSky x = new LadderSky();
        Due.tape(x, " ".repeat(500));
        Due.due("full", x.feed(-1, -1, -1, -1, -1), -1);
        Due.due("500 stay", x.end(500), 500);
        for (int n = 499; n > 480; n -= 6) {
            x.end(n);
            Due.due("feed behind " + n, x.feed(-1, -1, -1, -1, -1), -1);
            Due.due("no byte came behind " + n, x.end(n + 1), -1);
        }
        Due.due("the blanks are as they were", x.text(0, -1), 0);
        LadderSky y = new LadderSky();
        Due.tape(y, " ".repeat(480));
        Due.due("500 just", y.feed(0, 0, 0, 0, 0), 500);
    }

    private static void firstBytes() {
        LadderSky x = new LadderSky();
        Due.tape(x, "base 12;base 34;");
        Due.due("all", x.end(16), 16);
        Due.due("the first eight", x.end(8), 8);
        Due.due("not the others", x.end(9), -1);
        Due.due("text", x.text(0, -1), 0);
        Due.due("one rung", x.about(0, 0), 1);
        Due.due("none of none", x.end(0), 0);
        LadderSky y = new LadderSky();
        Due.tape(y, "base 12;");
        Due.due("none", y.end(0), 0);
        Due.due("an empty text", y.text(0, -1), 0);
        Due.due("no rung", y.about(0, 0), 0);
    }

    private static void notSoMany() {
        LadderSky x = new LadderSky();
        Due.due("one of none", x.end(1), -1);
        x.feed(0, 0, 0, 0, 0);
        for (int n : new int[] {21, 22, 500, 501, Integer.MAX_VALUE, -1, -20, Integer.MIN_VALUE}) {
            Due.due("end " + n, x.end(n), -1);
        }
        Due.due("20 are there still", x.end(20), 20);
    }

    private static void taken() {
        String[] texts = {"base 7;", "use 1;", "light 5 1;"};
        for (int sort = 0; sort < 3; sort++) {
            LadderSky x = new LadderSky();
            Due.due("a further one", Due.tell(x, sort, -1, texts[sort]), 0);
            Due.due("the tape is empty", x.end(1), -1);
            Due.due("another", Due.tell(x, sort, -1, texts[sort]), 1);
            Due.due("in the place of the first", Due.tell(x, sort, 0, texts[sort]), 0);
            Due.due("in the place of the last", Due.tell(x, sort, 1, texts[sort]), 1);
            Due.due("as many as before", x.count(sort), 2);
            Due.due("none of the others", x.count((sort + 1) % 3) + x.count((sort + 2) % 3), 0);
        }
        // in the place of one when there are as many as may be
        LadderSky y = Due.told("base 1;");
        Due.tell(y, 0, -1, "base 2;");
        Due.tell(y, 0, -1, "base 3;");
        Due.due("the last of three", Due.tell(y, 0, 2, "base 9;"), 2);
        int[] due = {101, 102, 109};
        for (int i = 0; i < 3; i++) {
            Due.due("base of " + i, y.about(i, 10), due[i]);
        }
    }

    private static void faultyTexts() {
        LadderSky x = some();
        String[] texts = {"base 0;", "use 6;", "light 0 1;"};
        for (int sort = 0; sort < 3; sort++) {
            int before = x.count(sort);
            Due.due("a fault", Due.tell(x, sort, -1, texts[sort]), -1);
            Due.due("2", x.fault(0), 2);
            Due.due("the tape is empty", x.end(1), -1);
            Due.due("none came", x.count(sort), before);
        }
        // the one in whose place it was told stays whole
        Due.due("a late fault in place", Due.tell(x, 0, 0, "base 9;away 9;has 0 0 9 9;?"), -1);
        Due.due("rungs", x.about(0, 0), 2);
        Due.due("things", x.about(0, 1), 3);
        Due.due("entry", x.entry(0, 0, 0, false), 5);
        Due.due("a late fault in a house's place", Due.tell(x, 1, 1, "use 5;way last;cast 9;?"), -1);
        Due.due("uses", x.of(1, 0), 2);
        Due.due("cast", x.of(1, 2), 4);
    }

    private static void refusedTexts() {
        String[] texts = {"base 7;", "use 1;", "light 5 1;"};
        int[] most = {3, 6, 3};
        for (int sort = 0; sort < 3; sort++) {
            LadderSky x = new LadderSky();
            for (int at : new int[] {0, 1, -2, 7, Integer.MIN_VALUE, Integer.MAX_VALUE}) {
                Due.due("none such of none, at " + at, Due.tell(x, sort, at, texts[sort]), -2);
            }
            for (int i = 0; i < most[sort]; i++) {
                Due.tell(x, sort, -1, texts[sort]);
            }
            Due.due("as many as may be", Due.tell(x, sort, -1, texts[sort]), -2);
            for (int at : new int[] {most[sort], most[sort] + 1, -2, Integer.MIN_VALUE, Integer.MAX_VALUE}) {
                Due.due("none such, at " + at, Due.tell(x, sort, at, texts[sort]), -2);
            }
            Due.due("as many", x.count(sort), most[sort]);
        }
        LadderSky y = some();
        for (int sort : new int[] {-1, 3, 4, -2, Integer.MIN_VALUE, Integer.MAX_VALUE}) {
            for (int at : new int[] {-1, 0}) {
                Due.due("sort " + sort, Due.tell(y, sort, at, "base 7;"), -2);
            }
        }
        // no text is read: a fault in it is none, and an earlier one is told no more
        Due.due("a fault", Due.tell(y, 0, -1, "base 0;"), -1);
        Due.due("refused", Due.tell(y, 0, 9, "base 0;"), -2);
        Due.due("fault 0", y.fault(0), 0);
        Due.due("no place", y.fault(1), -1);
        Due.due("the tape is taken all the same", y.end(1), -1);
        Due.tell(y, 0, -1, "base 0;");
        Due.due("no such sort", Due.tell(y, 3, -1, "?"), -2);
        Due.due("fault 0", y.fault(0), 0);
    }

    private static void latestFault() {
        LadderSky x = new LadderSky();
        Due.due("without a text", x.fault(0), 0);
        Due.due("no place without", x.fault(1), -1);
        Due.tell(x, 0, -1, "base 0;");
        Due.due("2", x.fault(0), 2);
        Due.due("at 5", x.fault(1), 5);
        x.feed(0, 0, 0, 0, 0);
        x.end(0);
        x.about(0, 0);
        Due.due("other calls leave it", x.fault(0), 2);
        Due.due("at 5 still", x.fault(1), 5);
        Due.tell(x, 2, -1, "");
        Due.due("the latest", x.fault(0), 4);
        Due.due("at 0", x.fault(1), 0);
        Due.tell(x, 0, -1, "base 1;");
        Due.due("without", x.fault(0), 0);
        Due.due("none", x.fault(1), -1);
    }

    private static void otherFaults() {
        LadderSky x = new LadderSky();
        Due.tell(x, 0, -1, "base 0;");
        for (int what : new int[] {-1, 2, 3, -2, Integer.MIN_VALUE, Integer.MAX_VALUE}) {
            Due.due("fault " + what, x.fault(what), -1);
        }
    }

    private static void aboutNone() {
        LadderSky x = some();
        Edge.refuses("about", a -> x.about(a[0], a[1]), -1, new int[] {0, 0}, Edge.but(2),
            new int[] {4, 5, 9, 12, 15, 16, 19, 21, 23, 24, 30, -1, -10, Integer.MIN_VALUE, Integer.MAX_VALUE, Integer.MIN_VALUE + 20});
        int[][] due = {{0, 2}, {1, 3}, {2, 1}, {3, 2}, {10, 1100}, {11, 0}, {20, 7}};
        for (int[] d : due) {
            Due.due("about " + d[0], x.about(0, d[0]), d[1]);
        }
        LadderSky full = Due.told("base 1;base 2;base 3;base 4;base 5;base 6;stone 1;stone 2;stone 3;stone 4;");
        Due.due("the last rung", full.about(0, 15), 106);
        Due.due("behind it", full.about(0, 16), -1);
        Due.due("the last stone", full.about(0, 23), 4);
        Due.due("behind it", full.about(0, 24), -1);
    }

    private static void noSpeed() {
        LadderSky x = some();
        Edge.refuses("speed", a -> x.speed(a[0], a[1]), -10000, new int[] {0, 0}, Edge.but(2), Edge.but(3));
        Due.due("no things", x.speed(1, 0), -10000);
        Due.due("the last", x.speed(0, 2), 0);
    }

    private static void noEntry() {
        LadderSky x = some();
        Edge.refuses("raw", a -> x.entry(a[0], a[1], a[2], false), -1, new int[] {0, 0, 0}, Edge.but(2), Edge.but(3), Edge.but(2));
        Edge.refuses("year", a -> x.entry(a[0], a[1], a[2], true), -1, new int[] {0, 0, 0}, Edge.but(2), Edge.but(3), Edge.but(2));
        Due.due("no entry of thing 0 by rung 1", x.entry(0, 0, 1, false), -1);
        Due.due("no year of it", x.entry(0, 0, 1, true), -1);
        Due.due("no entry of thing 1 by rung 0", x.entry(0, 1, 0, false), -1);
        Due.due("none of thing 2", x.entry(0, 2, 0, false), -1);
        Due.due("no things", x.entry(1, 0, 0, false), -1);
    }

    private static void asByText() {
        LadderSky x = some();
        int[][] rows = {{0, 0, 1, 0}, {2, 1, 9999, 99}, {0, 0, 9999, 0}, {2, 1, 1, 99}};
        for (int[] r : rows) {
            Due.due("has", x.has(0, r[0], r[1], r[2], r[3]), true);
            Due.due("raw", x.entry(0, r[0], r[1], false), r[2]);
            Due.due("year", x.entry(0, r[0], r[1], true), r[3]);
        }
        Due.due("later ones struck", x.about(0, 3), 3);
        Due.due("the same again is true, too", x.has(0, 2, 1, 1, 99), true);
        Due.due("in the other catalogue there is none", x.about(1, 3), 0);
    }

    private static void otherEntries() {
        LadderSky x = some();
        Edge.refuses("has", a -> x.has(a[0], a[1], a[2], a[3], a[4]) ? 1 : 0, 0, new int[] {0, 0, 0, 7, 7}, Edge.but(2), Edge.but(3), Edge.but(2),
            new int[] {0, -1, 10000, -9999, Integer.MIN_VALUE, Integer.MAX_VALUE}, Edge.butYears());
        Due.due("nothing came", x.about(0, 3), 2);
        Due.due("raw as it was told", x.entry(0, 0, 0, false), 7);
        Due.due("year as it was told", x.entry(0, 0, 0, true), 7);
    }

    private static void leaning() {
        LadderSky x = some();
        int[][] rows = {{0, -50}, {0, 50}, {5, 50}, {5, -50}, {5, 0}, {0, 1}};
        for (int[] r : rows) {
            Due.due("lean", x.lean(0, r[0], r[1]), true);
            Due.due("of", x.of(0, 10 + r[0]), r[1]);
        }
        Due.due("the same again is true, too", x.lean(0, 0, 1), true);
        Due.due("rungs that no catalogue has may lean", x.lean(0, 4, 9), true);
        Due.due("the other house does not", x.of(1, 14), 0);
    }

    private static void otherLeans() {
        LadderSky x = some();
        Edge.refuses("lean", a -> x.lean(a[0], a[1], a[2]) ? 1 : 0, 0, new int[] {0, 5, 7}, Edge.but(2), Edge.but(6),
            new int[] {51, -51, 100, -100, 307, Integer.MIN_VALUE, Integer.MAX_VALUE});
        Due.due("it leans as it was told", x.of(0, 15), 7);
        Due.due("the other does not", x.of(1, 15), 0);
    }

    private static void newCasts() {
        LadderSky x = some();
        for (int thing : new int[] {0, 1, 22, 23}) {
            Due.due("not cast yet", x.cast(0, thing, false), false);
            Due.due("new", x.cast(0, thing, true), true);
            Due.due("bits", x.of(0, 2), 1 << thing);
            Due.due("not new", x.cast(0, thing, true), false);
            Due.due("new the other way", x.cast(0, thing, false), true);
            Due.due("not new", x.cast(0, thing, false), false);
            Due.due("no bits", x.of(0, 2), 0);
        }
        Due.due("one cast by its text", x.cast(1, 2, true), false);
        Due.due("no more", x.cast(1, 2, false), true);
    }

    private static void otherCasts() {
        LadderSky x = some();
        Edge.refuses("cast", a -> x.cast(a[0], a[1], true) ? 1 : 0, 0, new int[] {0, 23}, Edge.but(2), Edge.but(24));
        Edge.refuses("uncast", a -> x.cast(a[0], a[1], false) ? 1 : 0, 0, new int[] {0, 23}, Edge.but(2), Edge.but(24));
        Due.due("nothing is cast by house 0", x.of(0, 2), 0);
        Due.due("thing 2 is by house 1", x.of(1, 2), 4);
    }

    private static void ofNone() {
        LadderSky x = some();
        Edge.refuses("of", a -> x.of(a[0], a[1]), -100, new int[] {1, 0}, Edge.but(2),
            new int[] {4, 5, 9, 16, 20, -1, -10, 32, Integer.MIN_VALUE, Integer.MAX_VALUE});
        int[][] due = {{0, 2}, {1, 0}, {2, 4}, {3, 1}, {10, 0}, {11, 3}, {15, 0}};
        for (int[] d : due) {
            Due.due("of " + d[0], x.of(1, d[0]), d[1]);
        }
    }

    private static void otherCounts() {
        LadderSky x = some();
        Edge.refuses("count", a -> x.count(a[0]), -2, new int[] {0}, new int[] {4, 5, -1, -2, Integer.MIN_VALUE, Integer.MAX_VALUE});
        int[] due = {2, 2, 0, 0};
        for (int what = 0; what < 4; what++) {
            Due.due("count " + what, x.count(what), due[what]);
        }
    }

    /** What there is, row by row, of an object that some() made and that went on from there. */
    private static void see(String name, LadderSky x, int... due) {
        int[] got = {x.count(0), x.count(1), x.count(2), x.count(3), x.fault(0), x.fault(1), x.about(0, 0), x.about(0, 3), x.entry(0, 0, 0, false),
            x.of(0, 0), x.of(0, 2), x.of(0, 10), x.sky(0, 0), x.sky(0, 10), x.kept(0, 30)};
        for (int i = 0; i < due.length; i++) {
            Due.due(name + ", row " + i, got[i], due[i]);
        }
    }

    private static void imageOfAll() {
        for (int k = 0; k < 3; k++) {
            LadderSky x = some();
            Due.tell(x, 2, -1, "light 5 5;");
            x.say(1, 7, 1, 2);
            Due.tell(x, 0, -1, "base 0;");
            Due.tape(x, "base 77;");
            Due.due("image " + k, x.image(k), true);
            int[] due = {2, 2, 1, 1, 2, 5, 2, 2, 5, 1, 0, 0, 1, 5, 7};
            see("unchanged by it", x, due);
            Due.due("the tape stays", x.text(0, -1), 2);
            x.has(0, 0, 0, 9, 9);
            x.has(0, 2, 0, 9, 9);
            x.lean(0, 0, 9);
            x.cast(0, 9, true);
            x.say(1, 9, 1, 2);
            Due.tell(x, 1, -1, "");
            Due.tell(x, 2, 0, "light 6 6;light 7 7;");
            Due.tell(x, 0, 1, "");
            Due.tape(x, "away 1;");
            Due.due("again", x.again(k), true);
            see("as it was", x, due);
            Due.due("the other catalogue", x.about(1, 10), 105);
            Due.due("the tape has eight bytes", x.end(9), -1);
            Due.due("its text", x.text(0, -1), 2);
            Due.due("its base", x.about(2, 10), 177);
        }
        fullImage();
        // of an object that has nothing, too
        LadderSky y = new LadderSky();
        Due.due("an empty image", y.image(1), true);
        Due.tell(y, 0, -1, "base 1;");
        Due.due("again", y.again(1), true);
        Due.due("nothing", y.count(0), 0);
    }

    /** As many of each as may be, and the last of each is in the image. */
    private static void fullImage() {
        LadderSky x = new LadderSky();
        for (int i = 0; i < 6; i++) {
            Due.tell(x, 1, -1, "use " + i + ";");
            Due.tell(x, 0, -1, "base " + (i + 1) + ";" + "stone 5;".repeat(4) + "away 6;".repeat(24) + "base 7;".repeat(5) + "has 23 5 8 9;");
            Due.tell(x, 2, -1, ("light " + (i + 1) + " 1;").repeat(6));
        }
        for (int i = 0; i < 16; i++) {
            Due.due("say", x.say(i % 6, i, i, i + 1), i);
        }
        for (int k = 0; k < 3; k++) {
            Due.due("image", x.image(k), true);
        }
        Due.tell(x, 0, 2, "");
        Due.tell(x, 1, 5, "");
        Due.tell(x, 2, 2, "light 9 9;");
        for (int k = 2; k >= 0; k--) {
            Due.due("again", x.again(k), true);
            int[] got = {x.about(2, 10), x.speed(2, 23), x.about(2, 23), x.entry(2, 23, 5, false), x.entry(2, 23, 5, true), x.of(5, 0), x.sky(2, 15), x.kept(0, 45)};
            int[] due = {103, 6, 5, 8, 9, 32, 3, 15};
            for (int i = 0; i < due.length; i++) {
                Due.due("the last of each, row " + i, got[i], due[i]);
            }
        }
    }

    private static void otherImages() {
        LadderSky x = some();
        for (int k : new int[] {-1, 3, 4, -3, Integer.MIN_VALUE, Integer.MAX_VALUE}) {
            Due.due("image " + k, x.image(k), false);
        }
        for (int k = 0; k < 3; k++) {
            Due.due("no image came", x.again(k), false);
        }
    }

    private static void asTheImage() {
        LadderSky x = new LadderSky();
        for (int k = 0; k < 3; k++) {
            Due.tell(x, 0, -1, "base " + (k + 1) + ";");
            Due.due("image", x.image(k), true);
        }
        for (int k : new int[] {0, 2, 1, 1, 0}) {
            Due.due("again " + k, x.again(k), true);
            Due.due("catalogues of image " + k, x.count(0), k + 1);
            Due.due("the last of it", x.about(k, 10), 101 + k);
        }
        // an image anew takes the place of the earlier one alone
        Due.tell(x, 0, 0, "base 50;");
        Due.due("image 1 anew", x.image(1), true);
        Due.due("again 2", x.again(2) && x.about(0, 10) == 101, true);
        Due.due("again 1", x.again(1) && x.about(0, 10) == 150 && x.count(0) == 1, true);
        Due.due("again 0", x.again(0) && x.about(0, 10) == 101 && x.count(0) == 1, true);
        // sayings, too: another one in the same place is not that of the image
        LadderSky y = some();
        y.image(0);
        y.say(1, 7, 1, 2);
        y.image(1);
        Due.due("none yet", y.again(0) && y.count(3) == 0, true);
        y.say(1, 9, 1, 2);
        Due.due("until of the other", y.kept(0, 30), 9);
        Due.due("again 1", y.again(1), true);
        Due.due("until of the first", y.kept(0, 30), 7);
        // a change behind it leaves the image
        x.again(1);
        Due.tell(x, 0, 0, "base 60;");
        Due.due("again 1", x.again(1) && x.about(0, 10) == 150, true);
    }

    private static void noImage() {
        LadderSky x = some();
        x.image(1);
        for (int k : new int[] {0, 2, -1, 3, Integer.MIN_VALUE, Integer.MAX_VALUE}) {
            Due.due("again " + k, x.again(k), false);
        }
        Due.due("all is as it was", x.count(0), 2);
        Due.due("image 1 is there", x.again(1), true);
    }
}
