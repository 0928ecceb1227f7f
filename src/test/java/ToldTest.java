/** Promises 6 to 12 and 47 to 49: what is told, changed, counted and kept in images. */
public final class ToldTest {
    private static final String CATALOGUE =
        "base 1000;on 0;base 9999;on 1;away 10;toward 20;away 0;stone 7;stone 9999;"
        + "has 0 0 5 50;has 1 1 9999 99;has 0 0 6 0;has 2 3 1 1;";

    private static void aboutACatalogue() {
        LadderSky x = Due.told(CATALOGUE);
        int[][] due = {{0, 4}, {1, 3}, {2, 2}, {3, 3}, {4, -1}, {9, -1}, {10, 1100}, {11, 0}, {12, 10099}, {13, 1}, {14, -1},
            {16, -1}, {19, -1}, {20, 7}, {21, 9999}, {22, -1}, {24, -1}, {-1, -1}, {Integer.MAX_VALUE, -1}, {Integer.MIN_VALUE, -1}};
        for (int[] d : due) {
            Due.due("about " + d[0], x.about(0, d[0]), d[1]);
        }
        Due.due("about none", x.about(1, 0), -1);
        Due.due("about -1", x.about(-1, 0), -1);
        Due.due("speed 0", x.speed(0, 0), 10);
        Due.due("speed 1", x.speed(0, 1), -20);
        Due.due("speed 2", x.speed(0, 2), 0);
        Due.due("speed 3", x.speed(0, 3), -10000);
        Due.due("speed -1", x.speed(0, -1), -10000);
        Due.due("speed of none", x.speed(1, 0), -10000);
        Due.due("speed of -1", x.speed(-1, 0), -10000);
    }

    private static void entries() {
        LadderSky x = Due.told(CATALOGUE);
        Due.due("the later one strikes", x.entry(0, 0, 0, false), 6);
        Due.due("its year too", x.entry(0, 0, 0, true), 0);
        Due.due("raw", x.entry(0, 1, 1, false), 9999);
        Due.due("year", x.entry(0, 1, 1, true), 99);
        Due.due("none", x.entry(0, 1, 0, false), -1);
        Due.due("none by year", x.entry(0, 1, 0, true), -1);
        int[][] wrong = {{1, 0, 0}, {-1, 0, 0}, {0, 3, 0}, {0, -1, 0}, {0, 0, 4}, {0, 0, -1}, {0, 0, 6}};
        for (int[] w : wrong) {
            Due.due("entry of none", x.entry(w[0], w[1], w[2], true), -1);
            Due.due("has of none", x.has(w[0], w[1], w[2], 1, 1), false);
        }
        Due.due("raw 0", x.has(0, 0, 1, 0, 1), false);
        Due.due("raw 10000", x.has(0, 0, 1, 10000, 1), false);
        Due.due("year -1", x.has(0, 0, 1, 1, -1), false);
        Due.due("year 100", x.has(0, 0, 1, 1, 100), false);
        Due.due("nothing came", x.about(0, 3), 3);
        Due.due("new", x.has(0, 0, 1, 1, 0), true);
        Due.due("it came", x.about(0, 3), 4);
        Due.due("struck", x.has(0, 0, 1, 9999, 99), true);
        Due.due("as many", x.about(0, 3), 4);
        Due.due("raw", x.entry(0, 0, 1, false), 9999);
        Due.due("year", x.entry(0, 0, 1, true), 99);
    }

    private static void aHouse() {
        LadderSky x = Due.told("", "use 0;use 5;use 0;way last;way mean;lean 0 up 3;lean 5 down 50;lean 0 down 4;cast 0;cast 23;throw odd 1;throw nearer 3;");
        int[][] due = {{0, 33}, {1, 1}, {2, 1 + (1 << 23)}, {3, 2}, {4, -100}, {9, -100}, {10, -4}, {11, 0}, {15, -50}, {16, -100}, {-1, -100},
            {Integer.MAX_VALUE, -100}};
        for (int[] d : due) {
            Due.due("of " + d[0], x.of(0, d[0]), d[1]);
        }
        Due.due("of none", x.of(1, 0), -100);
        Due.due("of -1", x.of(-1, 0), -100);
        Due.due("first", Due.tell(x, 1, -1, "way last;way first;"), 1);
        Due.due("is 0", x.of(1, 1), 0);
        Due.due("last", Due.tell(x, 1, -1, "way last;"), 2);
        Due.due("is 2", x.of(2, 1), 2);
    }

    private static void leansAndCasts() {
        LadderSky x = Due.told("", "");
        Due.due("lean -50", x.lean(0, 5, -50), true);
        Due.due("it leans", x.of(0, 15), -50);
        Due.due("lean 50", x.lean(0, 5, 50), true);
        Due.due("it leans", x.of(0, 15), 50);
        Due.due("lean 51", x.lean(0, 5, 51), false);
        Due.due("lean -51", x.lean(0, 5, -51), false);
        Due.due("lean of rung 6", x.lean(0, 6, 1), false);
        Due.due("lean of rung -1", x.lean(0, -1, 1), false);
        Due.due("lean of none", x.lean(1, 0, 1), false);
        Due.due("lean of -1", x.lean(-1, 0, 1), false);
        Due.due("it leans still", x.of(0, 15), 50);
        Due.due("cast 23", x.cast(0, 23, true), true);
        Due.due("not new", x.cast(0, 23, true), false);
        Due.due("cast", x.of(0, 2), 1 << 23);
        Due.due("cast 0", x.cast(0, 0, true), true);
        Due.due("cast", x.of(0, 2), (1 << 23) + 1);
        Due.due("no more", x.cast(0, 23, false), true);
        Due.due("not new", x.cast(0, 23, false), false);
        Due.due("cast", x.of(0, 2), 1);
        Due.due("cast 24", x.cast(0, 24, true), false);
        Due.due("cast 32", x.cast(0, 32, false), false);
        Due.due("cast -1", x.cast(0, -1, true), false);
        Due.due("cast of none", x.cast(1, 0, true), false);
        Due.due("cast of -1", x.cast(-1, 0, true), false);
        Due.due("cast", x.of(0, 2), 1);
    }

    private static void counts() {
        LadderSky x = Due.told("", "", "");
        Due.tell(x, 2, -1, "light 1 1;");
        Due.tell(x, 2, -1, "light 1 1;");
        Due.tell(x, 2, -1, "light 1 1;");
        for (int i = 0; i < 4; i++) {
            x.say(0, 0, 1, 2);
        }
        int[] due = {1, 2, 3, 4};
        for (int what = 0; what < 4; what++) {
            Due.due("count " + what, x.count(what), due[what]);
        }
        Due.due("count 4", x.count(4), -2);
        Due.due("count -1", x.count(-1), -2);
    }

    private static void images() {
        LadderSky x = Due.told("base 1;away 5;stone 3;has 0 0 4 4;", "use 1;throw slower 2;");
        Due.tell(x, 2, -1, "light 5 5;");
        x.say(0, 1, 2, 3);
        Due.due("a fault", Due.tell(x, 0, -1, "base 1;!"), -1);
        x.feed(0, 0, 0, 0, 0);
        Due.due("image 3", x.image(3), false);
        Due.due("image -1", x.image(-1), false);
        Due.due("again 1", x.again(1), false);
        Due.due("image 1", x.image(1), true);
        Due.due("again 0", x.again(0), false);
        Due.due("again 2", x.again(2), false);

        Due.due("text", x.text(1, -1), -1);
        Due.tell(x, 0, 0, "base 9;base 8;away 6;has 0 1 7 7;");
        Due.tell(x, 0, -1, "");
        Due.tell(x, 1, 0, "use 2;lean 0 up 5;cast 3;");
        Due.tell(x, 1, -1, "");
        Due.tell(x, 2, 0, "light 6 6;light 7 7;");
        Due.tell(x, 2, -1, "light 6 6;");
        x.say(0, 1, 2, 3);
        Due.due("image 0", x.image(0), true);

        Due.due("again 1", x.again(1), true);
        seeFirst(x);
        Due.due("again 0", x.again(0), true);
        seeSecond(x);
        Due.due("again 1", x.again(1), true);
        seeFirst(x);

        // what is changed behind an image does not change it
        x.has(0, 0, 0, 9, 9);
        x.lean(0, 0, 7);
        x.cast(0, 7, true);
        x.end(3);
        Due.due("again 1", x.again(1), true);
        seeFirst(x);
        Due.due("image 1 anew", x.again(0) && x.image(1), true);
        x.has(0, 0, 0, 9, 9);
        Due.due("again 1", x.again(1), true);
        seeSecond(x);
    }

    private static void theTapeInAnImage() {
        LadderSky x = new LadderSky();
        Due.tape(x, "base 77;");
        x.image(2);
        x.end(0);
        Due.tape(x, "away 5;");
        Due.due("as an image has it", x.again(2) && x.text(0, -1) == 0, true);
        Due.due("its text", x.about(0, 10), 177);
        Due.due("again", x.again(2) && x.count(0) == 0 && x.end(8) == 8, true);
    }

    private static void sayingsInAnImage() {
        LadderSky x = Due.told("base 1000;away 9;has 0 0 1 5;", "use 0;", "");
        x.say(0, 1, 8999, 9001);
        x.image(0);
        LadderSky y = Due.told("", "");
        Due.due("another object has none", y.again(0), false);
        x.say(0, 7, 1, 2);
        x.image(1);
        Due.due("back", x.again(0), true);
        Due.due("one", x.count(3), 1);
        x.say(1, 9, 3, 4);
        int[] due = {1, 0, 1, 9};
        see(x, due);
        Due.due("forth", x.again(1), true);
        see(x, new int[] {1, 0, 1, 7});
        // the first image stays, whatever is said anew
        Due.due("back", x.again(0), true);
        Due.due("one", x.kept(0, 31), -1);
        x.image(2);
        Due.tell(x, 1, 0, "");
        Due.due("forth", x.again(2), true);
        Due.due("its house", x.kept(0, 10), 1);
        Due.due("its year", x.kept(0, 30), 1);
        LadderSky z = Due.told("base 1000;away 9;has 0 0 1 5;", "use 0;", "");
        z.image(0);
        z.say(1, 3, 3, 4);
        z.image(1);
        z.again(0);
        z.say(0, 6, 9000, 9001);
        Due.due("other numbers", z.kept(0, 30), -1);
        z.again(1);
        Due.due("as it was", z.kept(0, 30), 3);
    }

    private static void see(LadderSky x, int[] due) {
        int[] got = {x.kept(0, 10), x.kept(0, 11), x.kept(0, 30), x.kept(0, 31)};
        for (int i = 0; i < due.length; i++) {
            Due.due("sayings, row " + i, got[i], due[i]);
        }
    }

    private static void allThatMayBe() {
        LadderSky x = new LadderSky();
        for (int i = 0; i < 6; i++) {
            Due.tell(x, 1, -1, "use " + i + ";");
            Due.tell(x, 0, -1, "base " + (i + 1) + ";" + "stone 5;".repeat(4) + "away 6;".repeat(24) + "base 7;".repeat(5));
            Due.tell(x, 2, -1, ("light " + (i + 1) + " 1;").repeat(6));
        }
        for (int i = 0; i < 16; i++) {
            Due.due("say", x.say(i % 6, i, i, i + 1), i);
        }
        for (int k = 0; k < 3; k++) {
            Due.due("image", x.image(k), true);
        }
        Due.tell(x, 0, 2, "");
        Due.tell(x, 1, 5, "");
        Due.tell(x, 2, 2, "light 9 9;");
        for (int k = 2; k >= 0; k--) {
            Due.due("again", x.again(k), true);
            Due.due("catalogue", x.about(2, 10), 103);
            Due.due("things", x.speed(2, 23), 6);
            Due.due("stones", x.about(2, 23), 5);
            Due.due("house", x.of(5, 0), 32);
            Due.due("sky", x.sky(2, 15), 3);
            Due.due("saying", x.kept(0, 45), 15);
            Due.due("rung 5", x.has(2, 23, 5, 1, 1), true);
            Due.due("worst", x.worst(2, 5, 1), -1);
            Due.due("path", x.path(2, 5, 4, 1, 5), -2000000000L);
        }
    }

    private static void seeFirst(LadderSky x) {
        int[] got = {x.count(0), x.count(1), x.count(2), x.count(3), x.fault(0), x.fault(1), x.about(0, 0), x.about(0, 10), x.about(0, 2),
            x.about(0, 20), x.speed(0, 0), x.entry(0, 0, 0, false), x.entry(0, 0, 0, true), x.of(0, 0), x.of(0, 2), x.of(0, 3), x.of(0, 10),
            x.sky(0, 0), x.sky(0, 10), x.sky(0, 20), x.end(20), x.end(21)};
        int[] due = {1, 1, 1, 1, 1, 7, 1, 101, 1, 3, 5, 4, 4, 2, 0, 1, 0, 1, 5, 5, 20, -1};
        for (int i = 0; i < due.length; i++) {
            Due.due("first image, row " + i, got[i], due[i]);
        }
    }

    private static void seeSecond(LadderSky x) {
        int[] got = {x.count(0), x.count(1), x.count(2), x.count(3), x.fault(0), x.fault(1), x.about(0, 0), x.about(0, 10), x.about(0, 2),
            x.about(0, 3), x.speed(0, 0), x.entry(0, 0, 1, false), x.entry(0, 0, 1, true), x.of(0, 0), x.of(0, 2), x.of(0, 3), x.of(0, 10),
            x.sky(0, 0), x.sky(0, 11), x.sky(0, 21), x.end(0), x.end(1)};
        int[] due = {2, 2, 2, 2, 0, -1, 2, 109, 0, 1, 6, 7, 7, 4, 8, 0, 5, 2, 7, 7, 0, -1};
        for (int i = 0; i < due.length; i++) {
            Due.due("second image, row " + i, got[i], due[i]);
        }
    }

    public static void main(String[] args) {
        aboutACatalogue();
        entries();
        aHouse();
        leansAndCasts();
        counts();
        images();
        theTapeInAnImage();
        sayingsInAnImage();
        allThatMayBe();
        Due.close("ToldTest");
    }
}
