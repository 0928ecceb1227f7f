/** Boundary sentences of Terms 1: what may be told, texts, tokens, faults. */
final class Terms1Edges {
    private static final String WHERE = "Terms 1";
    private static final int CATALOGUE = 0;
    private static final int HOUSE = 1;
    private static final int SKY = 2;

    private Terms1Edges() {
    }

    static void all() {
        catalogues();
        tapeAndTokens();
        houses();
        skies();
        faults();
        Edge.of(WHERE, "CATALOGUES, SKIES, at most 3 of each, HOUSES, at most 6, from 0 on.", Terms1Edges::howManyOfEach);
    }

    private static void catalogues() {
        Edge.of(WHERE, "A CATALOGUE has RUNGS, at most 6, from 0 on", Terms1Edges::sixRungs);
        Edge.of(WHERE, "a base with a SCALE, 1 .. 9999 (of 1000)", Terms1Edges::scales);
        Edge.of(WHERE, "or one that stands ON a RUNG told ahead of it", Terms1Edges::rungsAhead);
        Edge.of(WHERE, "THINGS, at most 24, from 0 on", Terms1Edges::things24);
        Edge.of(WHERE, "each with a SPEED, -9999 .. 9999 (away, above 0, or toward)", Terms1Edges::speeds);
        Edge.of(WHERE, "ENTRIES: of a THING by a RUNG a RAW number, 1 .. 9999", Terms1Edges::raws);
        Edge.of(WHERE, "known since a YEAR, 0 .. 99", Terms1Edges::entryYears);
        Edge.of(WHERE, "(one of each THING and RUNG: later ones strike)", Terms1Edges::oneEntry);
        Edge.of(WHERE, "STONES, at most 4, from 0 on", Terms1Edges::fourStones);
        Edge.of(WHERE, "an age, 1 .. 9999.", Terms1Edges::stoneAges);
    }

    private static void tapeAndTokens() {
        Edge.of(WHERE, "THE TAPE has at most 500 bytes.", Terms1Edges::fullTape);
        Edge.of(WHERE, "TOKENS, as long as they go", Terms1Edges::longestTokens);
        Edge.of(WHERE, "blanks (10, 32) between", Terms1Edges::blanks);
        Edge.of(WHERE, "words, rows of letters a .. z", Terms1Edges::letters);
        Edge.of(WHERE, "NUMBERS, 1 to 4 digits", Terms1Edges::digits);
        Edge.of(WHERE, "; one byte.", Terms1Edges::marks);
        Edge.of(WHERE, "A CATALOGUE's text: {LINE}.", Terms1Edges::noLines);
        Edge.of(WHERE, "LINE: (('base' | 'on' | 'away' | 'toward' | 'stone') NUMBER | 'has' NUMBER NUMBER NUMBER NUMBER) ';'", Terms1Edges::catalogueForms);
        Edge.of(WHERE, "(SCALE; RUNG; SPEED, 0 .. 9999; so much; age; THING, RUNG, RAW, YEAR).", Terms1Edges::catalogueNumbers);
    }

    private static void houses() {
        Edge.of(WHERE, "A HOUSE has USES (bits of RUNGS 0 .. 5; none at first)", Terms1Edges::uses);
        Edge.of(WHERE, "a WAY (0 first, as at first, 1 mean, 2 last)", Terms1Edges::ways);
        Edge.of(WHERE, "LEANS of RUNGS, -50 .. 50 (of 100; 0 at first)", Terms1Edges::leans);
        Edge.of(WHERE, "CAST (bits of THINGS 0 .. 23; none at first)", Terms1Edges::casts);
        Edge.of(WHERE, "RULES, at most 8.", Terms1Edges::eightRules);
        Edge.of(WHERE, "Its text: {(('use' NUMBER | 'way' ('first' | 'mean' | 'last') | 'lean' NUMBER ('up' | 'down') NUMBER | 'cast' NUMBER"
            + " | 'throw' ('slower' | 'faster' | 'nearer' | 'farther' | 'odd') NUMBER) ';'}", Terms1Edges::houseForms);
        Edge.of(WHERE, "(RUNG; RUNG, 0 .. 50; THING;", Terms1Edges::houseNumbers);
        Edge.of(WHERE, "a RULE: SPEED without its sign below, above so much, FAR below, above so much;", Terms1Edges::ruleBounds);
        Edge.of(WHERE, "so many times, 1 .. 9, the ODD one).", Terms1Edges::oddTimes);
    }

    private static void skies() {
        Edge.of(WHERE, "A SKY has LIGHTS, at most 6: so bright, 1 .. 999, so many, 1 .. 9", Terms1Edges::lights);
        Edge.of(WHERE, "H0, 0 .. 1000;", () -> setting("speed", 1, 0, 1000, 0));
        Edge.of(WHERE, "OWN, 0 .. 999;", () -> setting("own", 2, 0, 999, 0));
        Edge.of(WHERE, "ERR, 0 .. 50;", () -> setting("err", 3, 0, 50, 0));
        Edge.of(WHERE, "a LIMIT, 1 .. 9999 (1 at first);", () -> setting("limit", 4, 1, 9999, 1));
        Edge.of(WHERE, "TRIES, 1 .. 24 (24 at first);", () -> setting("tries", 5, 1, 24, 24));
        Edge.of(WHERE, "H0, OWN, ERR 0 at first.", Terms1Edges::bareSky);
        Edge.of(WHERE, "Its text: {('light' NUMBER NUMBER | ('speed' | 'own' | 'err' | 'limit' | 'tries') NUMBER) ';'} (speed: H0).", Terms1Edges::skyForms);
        Edge.of(WHERE, "Later ones strike, but RUNGS, THINGS, STONES, uses, casts, RULES, LIGHTS, which are further ones.", Terms1Edges::laterOnes);
    }

    private static void faults() {
        Edge.of(WHERE, "FAULTS of all, with places (a token's first byte; the end's):", Terms1Edges::faultPlaces);
        Edge.of(WHERE, "1 the first byte or token with which no text goes on", Terms1Edges::firstFault);
        Edge.of(WHERE, "(a longer row of digits is no token).", Terms1Edges::longRows);
        Edge.of(WHERE, "If there is none, the first by place, of one place the least:", Terms1Edges::firstByPlace);
        Edge.of(WHERE, "2 a NUMBER that can't be (as above;", Terms1Edges::impossibleNumbers);
        Edge.of(WHERE, "in a CATALOGUE a RUNG or THING that no LINE ahead told;", Terms1Edges::untold);
        Edge.of(WHERE, "a LINE with such a NUMBER tells its RUNG, THING, STONE, RULE, LIGHTS all the same);", Terms1Edges::toldAllTheSame);
        Edge.of(WHERE, "3 a 7th RUNG, a 25th THING, a 5th STONE, a 9th RULE, a 7th LIGHTS, at its first token.", Terms1Edges::oneTooMany);
        Edge.of(WHERE, "If there is none of these, of a SKY 4 without LIGHTS, at the end's place.", Terms1Edges::darkSky);
    }

    private static void sixRungs() {
        LadderSky x = Due.told("base 11;base 12;base 13;base 14;base 15;base 16;");
        Due.due("six", x.about(0, 0), 6);
        Due.due("from 0 on", x.about(0, 10), 111);
        Due.due("to 5", x.about(0, 15), 116);
        Due.due("no sixth", x.about(0, 16), -1);
        Edge.faulty(CATALOGUE, "base 11;base 12;base 13;base 14;base 15;base 16;base 17;", 3, 48);
        Due.due("none", Due.told("").about(0, 0), 0);
    }

    private static void scales() {
        Due.due("1", Due.told("base 1;").about(0, 10), 101);
        Due.due("9999", Due.told("base 9999;").about(0, 10), 10099);
        Edge.faulty(CATALOGUE, "base 0;", 2, 5);
        Edge.faulty(CATALOGUE, "base 0000;", 2, 5);
        Edge.faulty(CATALOGUE, "base 10000;", 1, 5);
        LadderSky x = Due.told("base 1000;base 1;base 9999;away 1;has 0 0 2000 0;has 0 1 2000 0;has 0 2 2000 0;", "");
        Due.due("of 1000", x.far(0, 0, 0, 0, 0), 2000);
        Due.due("1 of 1000", x.far(0, 0, 0, 0, 1), 2);
        Due.due("9999 of 1000", x.far(0, 0, 0, 0, 2), 19998);
    }

    private static void rungsAhead() {
        LadderSky x = Due.told("base 1;on 0;on 1;on 2;on 3;on 4;");
        for (int rung = 1; rung < 6; rung++) {
            Due.due("the one just ahead of " + rung, x.about(0, 10 + rung), rung - 1);
        }
        Edge.faulty(CATALOGUE, "on 0;", 2, 3);
        Edge.faulty(CATALOGUE, "base 1;on 1;", 2, 10);
        Edge.faulty(CATALOGUE, "base 1;on 1;base 1;", 2, 10);
        Edge.faulty(CATALOGUE, "base 1;base 1;base 1;base 1;base 1;on 5;", 2, 38);
    }

    private static void things24() {
        LadderSky x = Due.told("away 5;" + "away 6;".repeat(22) + "away 7;");
        Due.due("24", x.about(0, 1), 24);
        Due.due("from 0 on", x.speed(0, 0), 5);
        Due.due("to 23", x.speed(0, 23), 7);
        Due.due("no 24", x.speed(0, 24), -10000);
        Edge.faulty(CATALOGUE, "away 6;".repeat(24) + "toward 6;", 3, 168);
    }

    private static void speeds() {
        LadderSky x = Due.told("away 9999;toward 9999;away 0;toward 0;away 1;toward 1;");
        int[] due = {9999, -9999, 0, 0, 1, -1};
        for (int thing = 0; thing < due.length; thing++) {
            Due.due("speed " + thing, x.speed(0, thing), due[thing]);
        }
        Edge.faulty(CATALOGUE, "away 10000;", 1, 5);
        Edge.faulty(CATALOGUE, "toward 10000;", 1, 7);
        Edge.faulty(CATALOGUE, "away -1;", 1, 5);
    }

    private static void raws() {
        LadderSky x = Due.told("base 1;away 1;away 1;has 0 0 1 5;has 1 0 9999 5;");
        Due.due("1", x.entry(0, 0, 0, false), 1);
        Due.due("9999", x.entry(0, 1, 0, false), 9999);
        Edge.faulty(CATALOGUE, "base 1;away 1;has 0 0 0 5;", 2, 22);
        Edge.faulty(CATALOGUE, "base 1;away 1;has 0 0 10000 5;", 1, 22);
    }

    private static void entryYears() {
        LadderSky x = Due.told("base 1;away 1;away 1;has 0 0 5 0;has 1 0 5 99;");
        Due.due("0", x.entry(0, 0, 0, true), 0);
        Due.due("99", x.entry(0, 1, 0, true), 99);
        // of the last thing by the last rung, too
        LadderSky y = Due.told("away 1;".repeat(24) + "base 1;".repeat(6) + "has 23 5 9999 99;");
        Due.due("the last raw", y.entry(0, 23, 5, false), 9999);
        Due.due("the last year", y.entry(0, 23, 5, true), 99);
        Edge.faulty(CATALOGUE, "base 1;away 1;has 0 0 5 100;", 2, 24);
        Edge.faulty(CATALOGUE, "base 1;away 1;has 0 0 5 9999;", 2, 24);
    }

    private static void oneEntry() {
        LadderSky x = Due.told("base 1;base 1;away 1;away 1;has 0 0 5 6;has 0 1 7 8;has 1 0 9 10;has 0 0 11 3;");
        Due.due("three", x.about(0, 3), 3);
        Due.due("the later raw", x.entry(0, 0, 0, false), 11);
        Due.due("the later year, though it is less", x.entry(0, 0, 0, true), 3);
        Due.due("another rung stays", x.entry(0, 0, 1, false), 7);
        Due.due("another thing stays", x.entry(0, 1, 0, true), 10);
    }

    private static void fourStones() {
        LadderSky x = Due.told("stone 5;stone 6;stone 7;stone 8;");
        Due.due("four", x.about(0, 2), 4);
        Due.due("from 0 on", x.about(0, 20), 5);
        Due.due("to 3", x.about(0, 23), 8);
        Due.due("no fourth", x.about(0, 24), -1);
        Edge.faulty(CATALOGUE, "stone 5;stone 6;stone 7;stone 8;stone 9;", 3, 32);
    }

    private static void stoneAges() {
        LadderSky x = Due.told("stone 1;stone 9999;");
        Due.due("1", x.about(0, 20), 1);
        Due.due("9999", x.about(0, 21), 9999);
        Edge.faulty(CATALOGUE, "stone 0;", 2, 6);
        Edge.faulty(CATALOGUE, "stone 10000;", 1, 6);
    }

    private static void fullTape() {
        String most = "base 1000;" + " ".repeat(483) + "away 7;";
        LadderSky x = Due.told(most);
        Due.due("its last bytes are read", x.speed(0, 0), 7);
        LadderSky y = new LadderSky();
        Due.tape(y, most.substring(0, 499) + ":");
        Due.due("the 500th byte is there", y.text(0, -1), -1);
        Due.due("at 499", y.fault(1), 499);
        Edge.faulty(CATALOGUE, most.substring(0, 499) + " ", 1, 500);
        Edge.faulty(CATALOGUE, most.substring(0, 499), 1, 499);
        // a row of letters or digits that ends with the tape
        Edge.faulty(CATALOGUE, " ".repeat(496) + "base", 1, 500);
        Edge.faulty(CATALOGUE, " ".repeat(495) + "base1", 1, 500);
        Edge.faulty(CATALOGUE, " ".repeat(491) + "base12345", 1, 495);
        Edge.faulty(CATALOGUE, "a".repeat(500), 1, 0);
        Edge.faulty(CATALOGUE, "9".repeat(500), 1, 0);
        Edge.faulty(CATALOGUE, ";".repeat(500), 1, 0);
        LadderSky z = new LadderSky();
        Due.tape(z, " ".repeat(500));
        Due.due("a 501st byte", z.feed(0, 0, 0, 0, 0), -1);
        Due.due("500 are there", z.end(500), 500);
    }

    private static void longestTokens() {
        Edge.faulty(CATALOGUE, "basebase 1;", 1, 0);
        Edge.faulty(CATALOGUE, "base 1;on0;awayaway 1;", 1, 11);
        Edge.sound(CATALOGUE, "base1;on0;away1;toward2;stone3;has0 0 1 0;");
        Edge.sound(HOUSE, "use0;lean0up3;lean1down4;cast5;throw odd1;");
        Edge.faulty(HOUSE, "wayfirst;", 1, 0);
        Edge.faulty(HOUSE, "throwodd 1;", 1, 0);
        Due.due("digits go together", Due.told("base 1234;").about(0, 10), 1334);
        Edge.faulty(CATALOGUE, "base 12 34;", 1, 8);
        Edge.faulty(CATALOGUE, "ba se 1;", 1, 0);
    }

    private static void blanks() {
        Edge.sound(CATALOGUE, "\n base\n \n1 \n;\n \naway 1;  \n");
        Edge.sound(CATALOGUE, "    ");
        Edge.sound(CATALOGUE, "\n");
        for (int sign = 0; sign < 256; sign++) {
            boolean blank = sign == 10 || sign == 32;
            boolean word = sign >= 'a' && sign <= 'z';
            boolean digit = sign >= '0' && sign <= '9';
            if (blank) {
                Edge.sound(CATALOGUE, "base 1" + (char) sign + ";");
            } else if (!digit && sign != ';') {
                Edge.faulty(CATALOGUE, "base 1" + (char) sign + ";", 1, 6);
            }
            if (!blank && !word && !digit && sign != ';') {
                Edge.faulty(CATALOGUE, "base" + (char) sign + "1;", 1, 4);
            }
        }
    }

    private static void letters() {
        // a capital ends the row of letters, which is no word of a text then
        for (String word : new String[] {"Base", "bAse", "basE", "b", "bas", "basee", "zbase", "basez", "abase", "basea"}) {
            Edge.faulty(CATALOGUE, word + " 1;", 1, 0);
        }
        Edge.faulty(CATALOGUE, "baseA 1;", 1, 4);
        Edge.faulty(CATALOGUE, "base` 1;", 1, 4);
        Edge.faulty(CATALOGUE, "base{ 1;", 1, 4);
        Edge.faulty(CATALOGUE, "base\u00e1 1;", 1, 4);
    }

    private static void digits() {
        LadderSky x = Due.told("base 9;base 99;base 999;base 9999;base 0009;");
        int[] due = {109, 199, 1099, 10099, 109};
        for (int rung = 0; rung < due.length; rung++) {
            Due.due("digits of rung " + rung, x.about(0, 10 + rung), due[rung]);
        }
        Edge.faulty(CATALOGUE, "base ;", 1, 5);
        Edge.faulty(CATALOGUE, "base 00009;", 1, 5);
        Edge.faulty(CATALOGUE, "base 99999;", 1, 5);
        Edge.faulty(CATALOGUE, "base /;", 1, 5);
        Edge.faulty(CATALOGUE, "base :;", 1, 5);
    }

    private static void marks() {
        Edge.faulty(CATALOGUE, "base 1;;", 1, 7);
        Edge.faulty(CATALOGUE, ";base 1;", 1, 0);
        Edge.faulty(HOUSE, "use 1;;use 2;", 1, 6);
        Edge.faulty(SKY, "light 1 1;;", 1, 10);
        Edge.faulty(CATALOGUE, "base 1", 1, 6);
        Edge.faulty(CATALOGUE, "base 1:", 1, 6);
        Edge.faulty(CATALOGUE, "base 1 base 1;", 1, 7);
    }

    private static void noLines() {
        LadderSky x = Due.told("");
        for (int what = 0; what < 4; what++) {
            Due.due("about " + what, x.about(0, what), 0);
        }
        Edge.sound(HOUSE, "");
        Edge.sound(CATALOGUE, "stone 1;");
        Edge.sound(CATALOGUE, "base 1;away 1;" + "has 0 0 1 0;".repeat(40));
    }

    /** A sound line, its tokens parted by one blank: cut behind any of them, or with a wrong token in any place, it is none. */
    private static void form(int sort, String ahead, String line) {
        Edge.sound(sort, ahead + line);
        String[] tokens = line.split(" ");
        String before = ahead;
        for (int i = 0; i < tokens.length; i++) {
            int place = before.length();
            String behind = line.substring(before.length() - ahead.length() + tokens[i].length());
            boolean number = Character.isDigit(tokens[i].charAt(0));
            Edge.faulty(sort, before + "zz" + behind, 1, place);
            Edge.faulty(sort, before + "?" + behind, 1, place);
            Edge.faulty(sort, before + (number ? ";" : "1") + behind, 1, place);
            if (i > 0) {
                Edge.faulty(sort, before, 1, place);
            }
            before += tokens[i] + " ";
        }
        Edge.faulty(sort, before + "1", 1, before.length());
    }

    private static void catalogueForms() {
        String ahead = "base 1 ; away 1 ; ";
        for (String line : new String[] {"base 1 ;", "on 0 ;", "away 1 ;", "toward 1 ;", "stone 1 ;", "has 0 0 1 0 ;"}) {
            form(CATALOGUE, ahead, line);
        }
        Edge.faulty(CATALOGUE, ahead + "has 0 0 1 0 0 ;", 1, ahead.length() + 12);
        for (String word : new String[] {"use", "way", "lean", "cast", "throw", "light", "speed", "own", "err", "limit", "tries", "up"}) {
            Edge.faulty(CATALOGUE, word + " 1;", 1, 0);
        }
    }

    private static void catalogueNumbers() {
        Edge.faulty(CATALOGUE, "base 0;", 2, 5);
        Edge.faulty(CATALOGUE, "base 1;on 1;", 2, 10);
        Edge.sound(CATALOGUE, "away 0;away 9999;toward 0;toward 9999;stone 1;stone 9999;");
        Edge.faulty(CATALOGUE, "stone 0;", 2, 6);
        String ahead = "base 1;base 1;away 1;away 1;away 1;";
        Edge.sound(CATALOGUE, ahead + "has 2 1 1 0;has 0 0 9999 99;");
        Edge.faulty(CATALOGUE, ahead + "has 3 1 1 0;", 2, 39);
        Edge.faulty(CATALOGUE, ahead + "has 2 2 1 0;", 2, 41);
        Edge.faulty(CATALOGUE, ahead + "has 2 1 0 0;", 2, 43);
        Edge.faulty(CATALOGUE, ahead + "has 2 1 1 100;", 2, 45);
    }

    private static void uses() {
        Due.due("none at first", Due.told("", "").of(0, 0), 0);
        Due.due("rung 0", Due.told("", "use 0;").of(0, 0), 1);
        Due.due("rung 5", Due.told("", "use 5;").of(0, 0), 32);
        Due.due("all", Due.told("", "use 5;use 4;use 3;use 2;use 1;use 0;").of(0, 0), 63);
        Due.due("twice is once", Due.told("", "use 3;use 3;").of(0, 0), 8);
        Edge.faulty(HOUSE, "use 6;", 2, 4);
        Edge.faulty(HOUSE, "use 9999;", 2, 4);
    }

    private static void ways() {
        Due.due("as at first", Due.told("", "").of(0, 1), 0);
        Due.due("first", Due.told("", "way mean;way first;").of(0, 1), 0);
        Due.due("mean", Due.told("", "way mean;").of(0, 1), 1);
        Due.due("last", Due.told("", "way last;").of(0, 1), 2);
        Edge.faulty(HOUSE, "way 0;", 1, 4);
        // without a word of it the house goes the first way
        LadderSky x = Due.told("base 1000;base 1000;away 1;has 0 0 5 0;has 0 1 9 0;", "use 0;use 1;");
        Due.due("the first rung's", x.far(0, 0, 0, 0, -1), 5);
    }

    private static void leans() {
        LadderSky x = Due.told("", "", "lean 0 up 50;lean 5 down 50;lean 1 up 0;lean 2 down 0;lean 3 up 1;lean 4 down 1;");
        int[] due = {50, 0, 0, 1, -1, -50};
        for (int rung = 0; rung < 6; rung++) {
            Due.due("0 at first", x.of(0, 10 + rung), 0);
            Due.due("lean " + rung, x.of(1, 10 + rung), due[rung]);
        }
        Edge.faulty(HOUSE, "lean 0 up 51;", 2, 10);
        Edge.faulty(HOUSE, "lean 0 down 51;", 2, 12);
        Edge.faulty(HOUSE, "lean 6 up 50;", 2, 5);
        LadderSky y = Due.told("base 1000;", "lean 0 up 50;", "lean 0 down 50;");
        Due.due("50 of 100 more", y.scale(0, 0, 0, 0), 1500);
        Due.due("50 of 100 less", y.scale(0, 1, 0, 0), 500);
    }

    private static void casts() {
        Due.due("none at first", Due.told("", "").of(0, 2), 0);
        Due.due("thing 0", Due.told("", "cast 0;").of(0, 2), 1);
        Due.due("thing 23", Due.told("", "cast 23;").of(0, 2), 1 << 23);
        Edge.faulty(HOUSE, "cast 24;", 2, 5);
        Edge.faulty(HOUSE, "cast 32;", 2, 5);
    }

    private static void eightRules() {
        Due.due("none at first", Due.told("", "").of(0, 3), 0);
        Due.due("eight", Due.told("", "throw slower 1;".repeat(8)).of(0, 3), 8);
        Edge.faulty(HOUSE, "throw slower 1;".repeat(9), 3, 120);
        // the eighth is followed as the first is
        LadderSky x = Due.told("base 1000;away 5;away 50;has 0 0 1 0;has 1 0 1 0;", "use 0;" + "throw slower 1;".repeat(7) + "throw slower 6;");
        Due.due("the eighth throws", x.line(0, 0, 0, 0), 1);
    }

    private static void houseForms() {
        for (String line : new String[] {"use 1 ;", "way first ;", "way mean ;", "way last ;", "lean 1 up 2 ;", "lean 1 down 2 ;", "cast 1 ;",
            "throw slower 1 ;", "throw faster 1 ;", "throw nearer 1 ;", "throw farther 1 ;", "throw odd 1 ;"}) {
            form(HOUSE, "use 1 ; ", line);
        }
        Edge.faulty(HOUSE, "way up;", 1, 4);
        Edge.faulty(HOUSE, "lean 1 first 2;", 1, 7);
        Edge.faulty(HOUSE, "throw mean 2;", 1, 6);
        for (String word : new String[] {"base", "on", "away", "toward", "stone", "has", "light", "speed", "own", "err", "limit", "tries", "up"}) {
            Edge.faulty(HOUSE, word + " 1;", 1, 0);
        }
    }

    private static void houseNumbers() {
        Edge.sound(HOUSE, "use 0;use 5;lean 0 up 0;lean 5 up 50;cast 0;cast 23;");
        Edge.faulty(HOUSE, "use 6;", 2, 4);
        Edge.faulty(HOUSE, "lean 6 up 51;", 2, 5);
        Edge.faulty(HOUSE, "lean 5 up 51;", 2, 10);
        Edge.faulty(HOUSE, "cast 24;", 2, 5);
        Edge.sound(HOUSE, "throw slower 0;throw slower 9999;throw faster 0;throw faster 9999;throw nearer 0;throw nearer 9999;throw farther 0;throw farther 9999;");
        Edge.faulty(HOUSE, "throw faster 10000;", 1, 13);
    }

    private static int thrownOf(String rule) {
        LadderSky x = Due.told("base 1000;away 19;toward 20;away 21;toward 0;away 9999;has 0 0 19 0;has 1 0 20 0;has 2 0 21 0;has 3 0 1 0;has 4 0 9999 0;", "use 0;" + rule);
        int thrown = 0;
        for (int thing = 0; thing < 5; thing++) {
            thrown |= x.far(0, 0, 0, thing, -1) == -1 ? 1 << thing : 0;
        }
        return thrown;
    }

    private static void ruleBounds() {
        Due.due("slower than 20", thrownOf("throw slower 20;"), 0b01001);
        Due.due("slower than 21", thrownOf("throw slower 21;"), 0b01011);
        Due.due("slower than 0", thrownOf("throw slower 0;"), 0);
        Due.due("slower than 1", thrownOf("throw slower 1;"), 0b01000);
        Due.due("slower than 9999", thrownOf("throw slower 9999;"), 0b01111);
        Due.due("faster than 20", thrownOf("throw faster 20;"), 0b10100);
        Due.due("faster than 19", thrownOf("throw faster 19;"), 0b10110);
        Due.due("faster than 0", thrownOf("throw faster 0;"), 0b10111);
        Due.due("faster than 9999", thrownOf("throw faster 9999;"), 0);
        Due.due("nearer than 20", thrownOf("throw nearer 20;"), 0b01001);
        Due.due("nearer than 0", thrownOf("throw nearer 0;"), 0);
        Due.due("nearer than 9999", thrownOf("throw nearer 9999;"), 0b01111);
        Due.due("farther than 20", thrownOf("throw farther 20;"), 0b10100);
        Due.due("farther than 0", thrownOf("throw farther 0;"), 0b11111);
        Due.due("farther than 9999", thrownOf("throw farther 9999;"), 0);
    }

    private static void oddTimes() {
        Edge.sound(HOUSE, "throw odd 1;throw odd 9;");
        Edge.faulty(HOUSE, "throw odd 0;", 2, 10);
        Edge.faulty(HOUSE, "throw odd 10;", 2, 10);
        StringBuilder text = new StringBuilder("base 1000;" + "away 10;".repeat(12));
        for (int thing = 0; thing < 12; thing++) {
            text.append("has ").append(thing).append(" 0 1 0;");
        }
        // all alike: the odd one is the least each time
        for (int times = 1; times <= 9; times += 4) {
            LadderSky x = Due.told(text.toString(), "use 0;throw odd " + times + ";");
            Due.due("left of 12 after " + times, x.line(0, 0, 0, 0), 12 - times);
            Due.due("the last thrown", x.far(0, 0, 0, times - 1, -1), -1);
            Due.due("the first left", x.far(0, 0, 0, times, -1), 1);
        }
    }

    private static void lights() {
        LadderSky x = Edge.sky("light 1 1;light 999 9;light 3 3;light 4 4;light 5 5;light 6 6;");
        int[][] due = {{0, 6}, {10, 1}, {20, 1}, {11, 999}, {21, 9}, {15, 6}, {25, 6}, {16, -1}, {26, -1}};
        for (int[] d : due) {
            Due.due("sky " + d[0], x.sky(0, d[0]), d[1]);
        }
        Edge.faulty(SKY, "light 1 1;".repeat(7), 3, 60);
        Edge.faulty(SKY, "light 0 1;", 2, 6);
        Edge.faulty(SKY, "light 1000 1;", 2, 6);
        Edge.faulty(SKY, "light 1 0;", 2, 8);
        Edge.faulty(SKY, "light 1 10;", 2, 8);
    }

    private static void setting(String word, int what, int least, int most, int first) {
        Due.due(word + " at first", Edge.sky("light 5 5;").sky(0, what), first);
        Due.due(word + " of the least", Edge.sky("light 5 5;" + word + " " + least + ";").sky(0, what), least);
        Due.due(word + " of the most", Edge.sky("light 5 5;" + word + " " + most + ";").sky(0, what), most);
        int place = 11 + word.length();
        if (least > 0) {
            Edge.faulty(SKY, "light 5 5;" + word + " " + (least - 1) + ";", 2, place);
        }
        Edge.faulty(SKY, "light 5 5;" + word + " " + (most + 1) + ";", most == 9999 ? 1 : 2, place);
    }

    private static void bareSky() {
        LadderSky x = Edge.sky("light 5 5;");
        int[] first = {1, 0, 0, 0, 1, 24};
        for (int what = 0; what < first.length; what++) {
            Due.due("sky " + what, x.sky(0, what), first[what]);
        }
        // in the place of another one nothing of that is left
        Due.tell(x, 2, 0, "light 1 1;speed 5;own 6;err 7;limit 8;tries 9;");
        Due.due("in its place", Due.tell(x, 2, 0, "light 5 5;"), 0);
        for (int what = 0; what < first.length; what++) {
            Due.due("sky anew " + what, x.sky(0, what), first[what]);
        }
    }

    private static void skyForms() {
        for (String line : new String[] {"light 1 2 ;", "speed 1 ;", "own 1 ;", "err 1 ;", "limit 1 ;", "tries 1 ;"}) {
            form(SKY, "light 1 1 ; ", line);
        }
        Edge.faulty(SKY, "light 1 1 1;", 1, 10);
        for (String word : new String[] {"base", "on", "away", "toward", "stone", "has", "use", "way", "lean", "cast", "throw", "up"}) {
            Edge.faulty(SKY, word + " 1;", 1, 0);
        }
        Due.due("speed is H0", Edge.sky("speed 77;light 1 1;").sky(0, 1), 77);
    }

    private static void laterOnes() {
        LadderSky x = Due.told("base 1;base 1;away 1;away 1;stone 1;stone 1;has 0 0 5 5;has 0 0 6 7;",
            "use 0;use 1;cast 0;cast 1;throw odd 1;throw odd 1;way last;way mean;lean 0 up 5;lean 0 down 6;lean 1 down 6;lean 1 up 5;");
        Due.due("sky", Due.tell(x, 2, -1, "light 5 5;light 5 5;speed 1;speed 2;own 1;own 2;err 1;err 2;limit 1;limit 2;tries 1;tries 2;"), 0);
        int[] further = {x.about(0, 0), x.about(0, 1), x.about(0, 2), x.of(0, 0), x.of(0, 2), x.of(0, 3), x.sky(0, 0)};
        int[] due = {2, 2, 2, 3, 3, 2, 2};
        for (int i = 0; i < due.length; i++) {
            Due.due("further ones, row " + i, further[i], due[i]);
        }
        int[] struck = {x.about(0, 3), x.entry(0, 0, 0, false), x.entry(0, 0, 0, true), x.of(0, 1), x.of(0, 10), x.of(0, 11)};
        int[] later = {1, 6, 7, 1, -6, 5};
        for (int i = 0; i < later.length; i++) {
            Due.due("later ones, row " + i, struck[i], later[i]);
        }
        for (int what = 1; what < 6; what++) {
            Due.due("later of the sky, " + what, x.sky(0, what), 2);
        }
    }

    private static void faultPlaces() {
        Edge.faulty(CATALOGUE, "  basic 1;", 1, 2);
        Edge.faulty(CATALOGUE, "base \n 0;", 2, 7);
        // what an earlier text had behind this one's end is not of it
        String[][] pairs = {{"base 12;", "base 1", "6"}, {"basex 1;", "base", "4"}, {"base  1;", "base ", "5"}, {"base 1;;", "base 1", "6"}};
        for (String[] pair : pairs) {
            LadderSky x = new LadderSky();
            Due.tell(x, 0, -1, pair[0]);
            Due.due("text " + pair[1] + " behind " + pair[0], Due.tell(x, 0, -1, pair[1]), -1);
            Due.due("its fault", x.fault(0), 1);
            Due.due("its place", x.fault(1), Integer.parseInt(pair[2]));
        }
        Edge.faulty(CATALOGUE, "base", 1, 4);
        Edge.faulty(CATALOGUE, "base  \n", 1, 7);
        Edge.faulty(CATALOGUE, "base 1", 1, 6);
        Edge.faulty(SKY, "speed 1; \n", 4, 10);
        Edge.faulty(HOUSE, "  lean 0 up 51;", 2, 12);
        Edge.faulty(HOUSE, "throw odd 1;".repeat(8) + "  throw  odd 1;", 3, 98);
    }

    private static void firstFault() {
        // bytes and tokens go on as far as they can
        Edge.faulty(CATALOGUE, "base 1;!", 1, 7);
        Edge.faulty(CATALOGUE, "base! 1;", 1, 4);
        Edge.faulty(CATALOGUE, "x!", 1, 0);
        Edge.faulty(CATALOGUE, "base 1;base base;base 1", 1, 12);
        Edge.faulty(CATALOGUE, "base 1;\u0000", 1, 7);
        Edge.faulty(CATALOGUE, "base 1;\u00ff", 1, 7);
        Edge.faulty(HOUSE, "use 1; way way;!", 1, 11);
        // it goes ahead of others, however far behind it lies
        Edge.faulty(CATALOGUE, "base 0;away 1;away", 1, 18);
        Edge.faulty(CATALOGUE, "base 1;".repeat(7) + "?", 1, 49);
        Edge.faulty(HOUSE, "use 6;lean 9 up 99;use", 1, 22);
        Edge.faulty(SKY, "light 0 0;light 1", 1, 17);
        Edge.faulty(SKY, "speed 1", 1, 7);
    }

    private static void longRows() {
        Edge.faulty(CATALOGUE, "away 12345;", 1, 5);
        Edge.faulty(CATALOGUE, "away 00000;", 1, 5);
        Edge.faulty(CATALOGUE, "away 1;has 0 0 1 00000;", 1, 17);
        Edge.faulty(CATALOGUE, "12345", 1, 0);
        Edge.faulty(CATALOGUE, "away 1" + "0".repeat(400) + ";", 1, 5);
        Edge.faulty(CATALOGUE, "away 4294967297;", 1, 5);
        // nor is it one where another token is due
        Edge.faulty(CATALOGUE, "away 1 12345", 1, 7);
        Edge.faulty(CATALOGUE, "away 1;12345;", 1, 7);
        Edge.faulty(HOUSE, "way 12345;", 1, 4);
        // it is no token, so that it goes ahead of a number that can't be
        Edge.faulty(CATALOGUE, "base 0;away 12345;", 1, 12);
        Edge.faulty(HOUSE, "use 00001;", 1, 4);
        Edge.faulty(SKY, "light 1 00001;", 1, 8);
    }

    private static void firstByPlace() {
        Edge.faulty(CATALOGUE, "base 0;stone 0;", 2, 5);
        Edge.faulty(CATALOGUE, "base 1;away 1;has 9 9 0 999;", 2, 18);
        Edge.faulty(CATALOGUE, "base 1;away 1;has 0 9 0 999;", 2, 20);
        Edge.faulty(CATALOGUE, "base 1;away 1;has 0 0 0 999;", 2, 22);
        Edge.faulty(CATALOGUE, "stone 0;" + "base 1;".repeat(7), 2, 6);
        Edge.faulty(CATALOGUE, "base 1;".repeat(7) + "stone 0;", 3, 42);
        Edge.faulty(CATALOGUE, "base 1;".repeat(6) + "base 0;", 3, 42);
        Edge.faulty(CATALOGUE, "base 1;".repeat(6) + "stone 0;base 1;", 2, 48);
        Edge.faulty(HOUSE, "lean 9 up 99;", 2, 5);
        Edge.faulty(SKY, "light 0 0;", 2, 6);
        Edge.faulty(SKY, "light 1 1;".repeat(6) + "light 0 0;", 3, 60);
    }

    private static void impossibleNumbers() {
        for (String text : new String[] {"base 0;", "on 0;", "stone 0;", "has 0 0 1 0;"}) {
            Edge.faulty(CATALOGUE, text, 2, text.indexOf(' ') + 1);
        }
        for (String text : new String[] {"use 6;", "cast 24;", "lean 6 up 1;"}) {
            Edge.faulty(HOUSE, text, 2, text.indexOf(' ') + 1);
        }
        for (String text : new String[] {"light 0 1;", "light 1000 1;", "speed 1001;", "own 1000;", "err 51;", "limit 0;", "tries 0;", "tries 25;"}) {
            Edge.faulty(SKY, text, 2, text.indexOf(' ') + 1);
        }
        // a house knows no catalogue: its rungs and things are those that may be
        Edge.sound(HOUSE, "use 5;cast 23;lean 5 up 1;");
    }

    private static void untold() {
        Edge.faulty(CATALOGUE, "base 1;has 0 0 1 1;away 1;", 2, 11);
        Edge.faulty(CATALOGUE, "away 1;has 0 0 1 1;base 1;", 2, 13);
        Edge.faulty(CATALOGUE, "base 1;away 1;has 1 0 1 1;away 1;", 2, 18);
        Edge.faulty(CATALOGUE, "base 1;away 1;has 0 1 1 1;base 1;", 2, 20);
        Edge.faulty(CATALOGUE, "base 1;on 1;", 2, 10);
        Edge.sound(CATALOGUE, "base 1;away 1;has 0 0 1 1;on 0;away 1;has 1 1 1 1;");
        // what another catalogue has told is not told ahead
        LadderSky x = Due.told("base 1;base 1;away 1;");
        Due.due("a further one", Due.tell(x, 0, -1, "on 0;"), -1);
        Due.due("its place", x.fault(1), 3);
        Due.due("in its place", Due.tell(x, 0, 0, "base 1;has 0 0 1 1;"), -1);
        Due.due("its place", x.fault(1), 11);
    }

    /** No later fault can take the first one's place, whatever the line told. */
    private static void toldAllTheSame() {
        Edge.faulty(CATALOGUE, "base 0;on 0;away 1;has 0 1 1 1;", 2, 5);
        Edge.faulty(CATALOGUE, "base 1;on 7;on 1;on 2;", 2, 10);
        Edge.faulty(CATALOGUE, "stone 0;" + "stone 1;".repeat(4), 2, 6);
        Edge.faulty(HOUSE, "throw odd 0;" + "throw odd 1;".repeat(8), 2, 10);
        // a sky with such lights is not without
        Edge.faulty(SKY, "light 0 1;", 2, 6);
        Edge.faulty(SKY, "light 1 10;" + "light 1 1;".repeat(6), 2, 8);
    }

    private static void oneTooMany() {
        Edge.faulty(CATALOGUE, "base 1;".repeat(6) + " base 1;", 3, 43);
        Edge.faulty(CATALOGUE, "base 1;" + "on 0;".repeat(5) + " on 0;", 3, 33);
        Edge.faulty(CATALOGUE, "away 1;".repeat(24) + "\naway 1;", 3, 169);
        Edge.faulty(CATALOGUE, "toward 1;".repeat(25), 3, 216);
        Edge.faulty(CATALOGUE, "stone 1;".repeat(5), 3, 32);
        Edge.faulty(HOUSE, "throw nearer 1;".repeat(9), 3, 120);
        Edge.faulty(HOUSE, "throw odd 1;".repeat(9), 3, 96);
        Edge.faulty(SKY, "light 1 1;".repeat(7), 3, 60);
        Edge.sound(CATALOGUE, "base 1;".repeat(6) + "away 1;".repeat(24) + "stone 1;".repeat(4) + "has 23 5 1 0;");
        Edge.sound(HOUSE, "throw odd 1;".repeat(8));
        Edge.sound(SKY, "light 1 1;".repeat(6));
        // what the others are does not matter, only how many
        Edge.faulty(CATALOGUE, "base 1;on 0;base 1;on 1;base 1;on 2;on 3;", 3, 36);
        Edge.faulty(CATALOGUE, "away 1;toward 1;".repeat(12) + "away 0;", 3, 192);
    }

    private static void darkSky() {
        Edge.faulty(SKY, "", 4, 0);
        Edge.faulty(SKY, "   ", 4, 3);
        Edge.faulty(SKY, "speed 1;own 1;", 4, 14);
        Edge.faulty(SKY, "speed 1;\n", 4, 9);
        Edge.faulty(SKY, "speed 1001;", 2, 6);
        Edge.faulty(SKY, "speed 1;x", 1, 8);
        Edge.sound(CATALOGUE, "");
        Edge.sound(HOUSE, "");
        Edge.sound(SKY, "speed 1;light 1 1;");
        LadderSky x = Edge.sky("light 5 5;");
        Due.due("in the place of one with lights", Due.tell(x, 2, 0, ""), -1);
        Due.due("4", x.fault(0), 4);
        Due.due("the one stays", x.sky(0, 10), 5);
    }

    private static void howManyOfEach() {
        LadderSky x = new LadderSky();
        String[] texts = {"base 7;", "use 1;", "light 5 1;"};
        int[] most = {3, 6, 3};
        for (int sort = 0; sort < 3; sort++) {
            for (int i = 0; i < most[sort]; i++) {
                Due.due("from 0 on", Due.tell(x, sort, -1, texts[sort]), i);
            }
            Due.due("as many as may be", Due.tell(x, sort, -1, texts[sort]), -2);
            Due.due("so many", x.count(sort), most[sort]);
        }
    }
}
