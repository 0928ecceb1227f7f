/** Promises 1 to 5: a new object, the tape, texts and their faults. */
public final class TextTest {
    private static final int CATALOGUE = 0;
    private static final int HOUSE = 1;
    private static final int SKY = 2;

    private static void sound(int sort, String text) {
        LadderSky x = new LadderSky();
        Due.due("text " + text, Due.tell(x, sort, -1, text), 0);
        Due.due("fault of " + text, x.fault(0), 0);
        Due.due("place of " + text, x.fault(1), -1);
        Due.due("count of " + text, x.count(sort), 1);
    }

    private static void faulty(int sort, String text, int fault, int place) {
        LadderSky x = new LadderSky();
        Due.due("text " + text, Due.tell(x, sort, -1, text), -1);
        Due.due("fault of " + text, x.fault(0), fault);
        Due.due("place of " + text, x.fault(1), place);
        Due.due("count of " + text, x.count(sort), 0);
    }

    private static void aNewObject() {
        LadderSky x = new LadderSky();
        for (int what = 0; what < 4; what++) {
            Due.due("count " + what, x.count(what), 0);
        }
        for (int k = -1; k < 4; k++) {
            Due.due("again " + k, x.again(k), false);
        }
        Due.due("fault", x.fault(0), 0);
        Due.due("place", x.fault(1), -1);
        Due.due("end 0", x.end(0), 0);
        Due.due("end 1", x.end(1), -1);
    }

    private static void theTape() {
        LadderSky x = new LadderSky();
        for (int i = 1; i <= 25; i++) {
            Due.due("feed " + i, x.feed(0, 0, 0, 0, 0), 20 * i);
        }
        Due.due("feed over 500", x.feed(0, 0, 0, 0, 0), -1);
        Due.due("end 501", x.end(501), -1);
        Due.due("end -1", x.end(-1), -1);
        Due.due("end least", x.end(Integer.MIN_VALUE), -1);
        Due.due("end 481", x.end(481), 481);
        Due.due("feed over by one", x.feed(0, 0, 0, 0, 0), -1);
        Due.due("end 481 still", x.end(481), 481);
        Due.due("end 482", x.end(482), -1);
        Due.due("end 480", x.end(480), 480);
        Due.due("feed to 500", x.feed(0, 0, 0, 0, 0), 500);
        // "base 12;away 3;away 4" byte by byte, the highest of each number first
        LadderSky y = new LadderSky();
        y.feed(0x62617365, 0x2031323b, 0x61776179, 0x20333b61, 0x77617920);
        y.feed(0x343b2020, 0x20202020, 0x20202020, 0x20202020, 0x20202020);
        Due.due("text by hand", y.text(0, -1), 0);
        Due.due("its scale", y.about(0, 10), 112);
        Due.due("its speed 0", y.speed(0, 0), 3);
        Due.due("its speed 1", y.speed(0, 1), 4);
        Due.due("the tape is empty then", y.feed(0, 0, 0, 0, 0), 20);
        Due.due("text of 0", y.text(0, -1), -1);
        Due.due("the tape is empty behind a fault", y.feed(0, 0, 0, 0, 0), 20);
        // high bytes are no letters
        y.end(0);
        y.feed(-1, -1, -1, -1, -1);
        Due.due("text of 255", y.text(0, -1), -1);
        Due.due("fault of 255", y.fault(0), 1);
    }

    private static void places() {
        LadderSky x = new LadderSky();
        String[] texts = {"base 7;", "use 1;", "light 5 1;"};
        int[] most = {3, 6, 3};
        for (int sort = 0; sort < 3; sort++) {
            Due.due("in place of none", Due.tell(x, sort, 0, texts[sort]), -2);
            for (int i = 0; i < most[sort]; i++) {
                Due.due("a further one", Due.tell(x, sort, -1, texts[sort]), i);
            }
            Due.due("one too many", Due.tell(x, sort, -1, texts[sort]), -2);
            Due.due("behind the last", Due.tell(x, sort, most[sort], texts[sort]), -2);
            Due.due("at -2", Due.tell(x, sort, -2, texts[sort]), -2);
            Due.due("at the least", Due.tell(x, sort, Integer.MIN_VALUE, texts[sort]), -2);
            Due.due("in place of the last", Due.tell(x, sort, most[sort] - 1, texts[sort]), most[sort] - 1);
            Due.due("count", x.count(sort), most[sort]);
        }
        for (int sort : new int[] {-1, 3, Integer.MAX_VALUE, Integer.MIN_VALUE}) {
            for (String text : texts) {
                Due.due("sort " + sort, Due.tell(x, sort, -1, text), -2);
                Due.due("sort " + sort + " in place", Due.tell(x, sort, 0, text), -2);
                Due.due("sort " + sort + " first of all", Due.tell(new LadderSky(), sort, -1, text), -2);
            }
        }
    }

    private static void refusals() {
        LadderSky x = new LadderSky();
        Due.due("a fault", Due.tell(x, 0, -1, "base 0;"), -1);
        Due.due("its number", x.fault(0), 2);
        Due.tape(x, "base 0;");
        Due.due("refused ahead of reading", x.text(0, 0), -2);
        Due.due("no fault then", x.fault(0), 0);
        Due.due("no place then", x.fault(1), -1);
        Due.due("the tape is taken all the same", x.feed(0, 0, 0, 0, 0), 20);
        Due.due("no such sort takes it too", x.text(9, -1), -2);
        Due.due("empty", x.end(1), -1);
        Due.due("fault 2", x.fault(2), -1);
        Due.due("fault -1", x.fault(-1), -1);
        x.end(0);
        // a fault leaves the one in whose place the text was told
        Due.due("one", Due.tell(x, 0, -1, "base 77;"), 0);
        Due.due("a fault in its place", Due.tell(x, 0, 0, "base 5;base 0;"), -1);
        Due.due("it stays", x.about(0, 10), 177);
        Due.due("alone", x.about(0, 0), 1);
        Due.due("another in its place", Due.tell(x, 0, 0, "away 3;"), 0);
        Due.due("nothing of the first is left", x.about(0, 0), 0);
        // entries of the one ahead do not shine through
        Due.due("with an entry", Due.tell(x, 0, 0, "base 1;away 3;has 0 0 5 5;"), 0);
        Due.due("without", Due.tell(x, 0, 0, "base 1;away 3;"), 0);
        Due.due("none", x.about(0, 3), 0);
        Due.due("house", Due.tell(x, 1, -1, "use 3;way last;lean 2 up 3;cast 4;throw odd 1;"), 0);
        Due.due("empty house", Due.tell(x, 1, 0, ""), 0);
        for (int what = 0; what < 4; what++) {
            Due.due("of " + what, x.of(0, what), 0);
        }
        Due.due("its lean", x.of(0, 12), 0);
        Due.due("sky", Due.tell(x, 2, -1, "light 9 9;speed 9;own 9;err 9;limit 9;tries 9;"), 0);
        Due.due("bare sky", Due.tell(x, 2, 0, "light 9 9;"), 0);
        int[] first = {1, 0, 0, 0, 1, 24};
        for (int what = 0; what < 6; what++) {
            Due.due("sky " + what, x.sky(0, what), first[what]);
        }
    }

    private static void tokens() {
        sound(CATALOGUE, "");
        sound(CATALOGUE, " \n  ");
        sound(CATALOGUE, "base10;away3;has0 0 1 1;");
        sound(CATALOGUE, "\nbase\n0010 ;  away 0000\n; ");
        faulty(CATALOGUE, "base 1 0;", 1, 7);
        faulty(CATALOGUE, "base;", 1, 4);
        faulty(CATALOGUE, "base", 1, 4);
        faulty(CATALOGUE, "base  ", 1, 6);
        faulty(CATALOGUE, "base 1 \n ", 1, 9);
        faulty(CATALOGUE, "Base 1;", 1, 0);
        faulty(CATALOGUE, " basex 1;", 1, 1);
        faulty(CATALOGUE, "bas 1;", 1, 0);
        faulty(CATALOGUE, "basez 1;", 1, 0);
        faulty(CATALOGUE, "basea 1;", 1, 0);
        faulty(CATALOGUE, "base` 1;", 1, 4);
        faulty(CATALOGUE, "base{ 1;", 1, 4);
        faulty(CATALOGUE, "base /1;", 1, 5);
        faulty(CATALOGUE, "base 1:;", 1, 6);
        faulty(CATALOGUE, "base 1x;", 1, 6);
        faulty(CATALOGUE, "base 1;;", 1, 7);
        faulty(CATALOGUE, ";", 1, 0);
        faulty(CATALOGUE, "7;", 1, 0);
        faulty(CATALOGUE, "base 12345;", 1, 5);
        faulty(CATALOGUE, "base 00001;", 1, 5);
        faulty(CATALOGUE, "base 1;\t", 1, 7);
        faulty(CATALOGUE, "base -1;", 1, 5);
        faulty(CATALOGUE, "base 1;\u00e1", 1, 7);
        faulty(CATALOGUE, "light 1 1;", 1, 0);
        faulty(HOUSE, "base 1;", 1, 0);
        faulty(HOUSE, "way up;", 1, 4);
        faulty(HOUSE, "way 1;", 1, 4);
        faulty(HOUSE, "way mean first;", 1, 9);
        faulty(HOUSE, "lean 1 2;", 1, 7);
        faulty(HOUSE, "lean up 2;", 1, 5);
        faulty(HOUSE, "lean 1 up;", 1, 9);
        faulty(HOUSE, "throw 3;", 1, 6);
        faulty(HOUSE, "throw up 3;", 1, 6);
        faulty(HOUSE, "throw odd;", 1, 9);
        faulty(HOUSE, "throw", 1, 5);
        faulty(SKY, "light 5;", 1, 7);
        faulty(SKY, "use 1;", 1, 0);
        faulty(SKY, "light 1 1;;", 1, 10);
        faulty(HOUSE, "use 1;;", 1, 6);
        faulty(SKY, "speed speed;", 1, 6);
    }

    /** What an earlier text had behind a shorter one's end is not read. */
    private static void leftovers() {
        LadderSky x = new LadderSky();
        String[][] pairs = {{"base 12;", "base 1", "6"}, {"basex 1;", "base", "4"}, {"base  1;", "base ", "5"}, {"base 1;;", "base 1", "6"}};
        for (String[] pair : pairs) {
            Due.tell(x, 0, -1, pair[0]);
            Due.due("text " + pair[1] + " behind " + pair[0], Due.tell(x, 0, -1, pair[1]), -1);
            Due.due("fault", x.fault(0), 1);
            Due.due("place", x.fault(1), Integer.parseInt(pair[2]));
        }
    }

    private static void catalogueNumbers() {
        sound(CATALOGUE, "base 1;base 9999;on 1;away 0;toward 9999;away 9999;stone 1;stone 9999;has 2 2 1 0;has 0 0 9999 99;");
        faulty(CATALOGUE, "base 0;", 2, 5);
        faulty(CATALOGUE, "stone 0;", 2, 6);
        faulty(CATALOGUE, "on 0;", 2, 3);
        faulty(CATALOGUE, "base 1;on 0;on 2;", 2, 15);
        faulty(CATALOGUE, "base 1;on 1;base 2;", 2, 10);
        faulty(CATALOGUE, "base 1;has 0 0 1 1;away 1;", 2, 11);
        faulty(CATALOGUE, "away 1;has 0 0 1 1;base 1;", 2, 13);
        faulty(CATALOGUE, "base 1;away 1;has 1 1 0 100;", 2, 18);
        faulty(CATALOGUE, "base 1;away 1;has 0 1 0 100;", 2, 20);
        faulty(CATALOGUE, "base 1;away 1;has 0 0 0 100;", 2, 22);
        faulty(CATALOGUE, "base 1;away 1;has 0 0 1 100;", 2, 24);
        faulty(CATALOGUE, "base 0;x", 1, 7);
        faulty(CATALOGUE, "base 0;base 0", 1, 13);
        faulty(CATALOGUE, "stone 1;stone 1;stone 1;stone 0;stone 1;", 2, 30);
        faulty(CATALOGUE, "stone 1;stone 1;stone 1;stone 1;stone 0;", 3, 32);
        sound(CATALOGUE, "stone 1;".repeat(4) + "away 1;".repeat(24) + "base 1;".repeat(6));
        faulty(CATALOGUE, "toward 1;".repeat(25), 3, 216);
        faulty(CATALOGUE, "base 1;" + "on 0;".repeat(6), 3, 32);
        faulty(CATALOGUE, "base 1;".repeat(7), 3, 42);
        faulty(CATALOGUE, "away 1;".repeat(25), 3, 168);
        faulty(CATALOGUE, "base 1;" + "on 0;".repeat(6) + "on 9;", 3, 32);
        faulty(CATALOGUE, "base 1;" + "on 0;".repeat(6) + "!", 1, 37);
    }

    private static void houseNumbers() {
        sound(HOUSE, "use 0;use 5;use 5;way first;way mean;way last;lean 5 up 50;lean 0 down 50;cast 0;cast 23;cast 23;");
        sound(HOUSE, "throw slower 0;throw faster 9999;throw nearer 9999;throw farther 0;throw odd 1;throw odd 9;");
        faulty(HOUSE, "use 6;", 2, 4);
        faulty(HOUSE, "lean 6 up 51;", 2, 5);
        faulty(HOUSE, "lean 5 down 51;", 2, 12);
        faulty(HOUSE, "cast 24;", 2, 5);
        faulty(HOUSE, "throw odd 0;", 2, 10);
        faulty(HOUSE, "throw odd 10;", 2, 10);
        sound(HOUSE, "throw odd 1;".repeat(8));
        faulty(HOUSE, "throw slower 1;".repeat(9), 3, 120);
        faulty(HOUSE, "throw odd 0;" + "throw odd 1;".repeat(8), 2, 10);
    }

    private static void skyNumbers() {
        sound(SKY, "light 1 1;light 999 9;speed 0;speed 1000;own 0;own 999;err 0;err 50;limit 1;limit 9999;tries 1;tries 24;");
        faulty(SKY, "light 0 1;", 2, 6);
        faulty(SKY, "light 1000 0;", 2, 6);
        faulty(SKY, "light 1 0;", 2, 8);
        faulty(SKY, "light 1 10;", 2, 8);
        faulty(SKY, "light 1 1;speed 1001;", 2, 16);
        faulty(SKY, "own 1000;", 2, 4);
        faulty(SKY, "err 51;", 2, 4);
        faulty(SKY, "limit 0;", 2, 6);
        faulty(SKY, "tries 0;", 2, 6);
        faulty(SKY, "tries 25;light 1 1;", 2, 6);
        sound(SKY, "light 1 1;".repeat(6));
        faulty(SKY, "light 1 1;".repeat(7), 3, 60);
        faulty(SKY, "", 4, 0);
        faulty(SKY, " speed 1;  ", 4, 11);
    }

    public static void main(String[] args) {
        aNewObject();
        theTape();
        places();
        refusals();
        tokens();
        leftovers();
        catalogueNumbers();
        houseNumbers();
        skyNumbers();
        Due.close("TextTest");
    }
}
