/**
 * The TAPE, NET, YEAR and OTHER (Terms, promises 1 to 6): each sentence of the document that names a
 * boundary case, quoted, with a test of its own.
 */
public final class TextEdgesTest {
    private static final long EIGHT_BLANKS = 0x2020202020202020L;
    private static final String[] RESERVED = {"folk", "kin", "line", "rope", "takes", "over", "under", "cut", "pull",
        "bend", "slip", "hitch", "war", "not", "and", "or"};
    private static final String[] FACTS = {"place", "sort", "kins", "below"};
    private static final String[] KINDS = {"bend", "slip", "hitch", "war"};
    private static final String FORTY = "pull;".repeat(40);
    private static final String TWENTY_FOUR = "a over;".repeat(24);
    private static final String A_BEND = "folk a bend;";
    private static final String TWO = "folk a bend;folk b war;";

    private static final Check CHECK = new Check();

    public static void main(String[] args) {
        atFirst();
        tapeHolds1000();
        tapeFullOfTokens();
        leftOutTakesNoRoom();
        signsOfTheTape();
        highestByteFirst();
        feedTellsHowManyThereAre();
        whatReadsTakes();
        longestTokens();
        wordsOfEight();
        numbersOfFour();
        letterBehindANumber();
        blanksBetween();
        allElseIsNone();
        anyNumberOfClauses();
        sixFolk();
        namesOfFolk();
        kindsOfFolk();
        clausesEndWithASign();
        kinAreTold();
        kinAreTwo();
        pairsAreToldOnce();
        lineFrom1To24();
        ropeFrom0To999();
        toldOnce();
        clausesInAnyOrder();
        anyNumberOfYearLines();
        cutsOfAYear();
        forms();
        noFolkAtTheBeginning();
        theFortyFirstLine();
        theTwentyFifthLine();
        partsOfALaw();
        oneComparison();
        withinFiveOthers();
        theEndIsAtTheLength();
        theFirstWrongToken();
        theLeastKind();
        aFaultKeepsAll();
        aNetBeginsAnew();
        netsOneAfterAnother();
        netsBehindFaults();
        yearAndOtherReplace();
        folkAndWhat();
        CHECK.end();
    }

    private static void due(String what, Object got, Object want) {
        CHECK.due(what, got, want);
    }

    private static void good(String text) {
        due("net of '" + text + "'", Check.net(new YearKnot(), text), 0);
    }

    private static void wrong(String text, int kind, int place) {
        YearKnot x = new YearKnot();
        due("net of '" + text + "'", Check.net(x, text), Told.fault(kind, place));
        due("nothing comes of '" + text + "'", Told.counts(x), "0 0 24 200 0 0 0 0 0 0 0");
    }

    private static void goodYear(String text, int lines) {
        YearKnot x = Told.net(CHECK, A_BEND);
        due("year of '" + text + "'", Check.year(x, text), 0);
        due("lines of '" + text + "'", x.count(7), lines);
    }

    private static void wrongYear(String text, int kind, int place) {
        YearKnot x = Told.net(CHECK, A_BEND);
        due("year of '" + text + "'", Check.year(x, text), Told.fault(kind, place));
        due("nothing comes of '" + text + "'", x.count(7), 0);
    }

    private static void goodOther(String text, int ties) {
        YearKnot x = Told.net(CHECK, A_BEND);
        due("other of '" + text + "'", Check.other(x, text), 0);
        due("ties of '" + text + "'", x.count(8), ties);
    }

    private static void wrongOther(String text, int kind, int place) {
        YearKnot x = Told.net(CHECK, A_BEND);
        due("other of '" + text + "'", Check.other(x, text), Told.fault(kind, place));
        due("nothing comes of '" + text + "'", x.count(8), 0);
    }

    // "At first: nothing, line 24, rope 200."; "NONE = -1"
    private static void atFirst() {
        YearKnot x = new YearKnot();
        due("NONE", YearKnot.NONE, -1);
        due("counts at first", Told.counts(x), "0 0 24 200 0 0 0 0 0 0 0");
        due("TAPE at first", x.count(11), 0);
        due("no FOLK at first", x.folk(0, 0) + " " + x.folk(0, 1) + " " + x.tie(0, true), "-1 -1 -1");
        due("no tie at first", x.at(0) + " " + x.form(0) + " " + x.cut(0) + " " + x.pull(), "-1 -1 -1 -1");
        due("no YEAR at first", x.judged(0) + " " + x.judged(1) + " " + x.judged(2), "-1 -1 0");
        due("COMES OUT at first", x.out(), true);
        due("no UNDO at first", x.undo(), false);
        for (int mark = 0; mark < 4; mark++) {
            due("no MARK at first", x.mark(mark, true), false);
        }
        due("an empty TAPE at first", x.net() + " " + x.year() + " " + x.other(), "0 0 0");
    }

    private static void fillWithBlanks(YearKnot x, int signs) {
        for (int there = x.count(11); there < signs; there++) {
            due("one blank more", x.feed(32, 0, 0), there + 1);
        }
    }

    // "The TAPE has at most 1,000 signs"; "what is beyond 1,000, are left out"
    private static void tapeHolds1000() {
        YearKnot x = new YearKnot();
        fillWithBlanks(x, 999);
        due("24 behind 999", x.feed(Check.eight("ABBBBBBB", 0), -1, Check.eight("B", 0)), 1000);
        due("full", x.feed(Check.eight("B", 0), 0, 0), 1000);
        due("the first of them is the 1,000th", x.net(), Told.fault(1, 999));
        fillWithBlanks(x, 1000);
        due("a 1,001st", x.feed(Check.eight("AAAAAAAA", 0), -1, 65), 1000);
        due("it is left out", x.net(), 0);
        fillWithBlanks(x, 996);
        due("four of seven", x.feed(Check.eight("line 5;", 0), 0, 0), 1000);
        due("the end at 1,000", x.net(), Told.fault(1, 1000));
        fillWithBlanks(x, 976);
        due("24 behind 976", x.feed(EIGHT_BLANKS, EIGHT_BLANKS, Check.eight(" line 8;", 0)), 1000);
        due("all of them are read", x.net() + " " + x.count(2), "0 8");
        fillWithBlanks(x, 977);
        due("24 behind 977", x.feed(EIGHT_BLANKS, EIGHT_BLANKS, Check.eight(" line 8;", 0)), 1000);
        due("the last is left out", x.net(), Told.fault(1, 1000));
    }

    // "The TAPE has at most 1,000 signs": each of them may be a token
    private static void tapeFullOfTokens() {
        wrong(";".repeat(1000), 1, 0);
        wrong("takes" + "(".repeat(995), 5, 10);
        good("takes 1" + "*1".repeat(496) + ";");
        wrong("takes 1" + "*1".repeat(496) + "*", 1, 1000);
        wrongYear("(".repeat(1000), 1, 0);
        wrongYear("a over;" + "pull;".repeat(39) + ";".repeat(798), 1, 202);
        wrongOther("1 ".repeat(500), 1, 0);
        YearKnot x = Told.net(CHECK, "takes 2" + "+0+0-0*9".repeat(120) + ";folk a bend;");
        due("a law of 960 signs", x.tie(0, true) + " " + x.count(4), "1 2");
    }

    // "others than 10 and 32 .. 126 .. are left out": they take no room on the TAPE
    private static void leftOutTakesNoRoom() {
        YearKnot x = new YearKnot();
        fillWithBlanks(x, 998);
        due("two among others", x.feed(0x0020_0009_7F80_FF41L, 0x42L, 0), 1000);
        due("the second is the 1,000th", x.net(), Told.fault(1, 999));
    }

    // "others than 10 and 32 .. 126 .. are left out"
    private static void signsOfTheTape() {
        for (int sign = 0; sign < 256; sign++) {
            int want = sign == 10 || sign >= 32 && sign <= 126 ? 1 : 0;
            for (int shift = 0; shift < 64; shift += 8) {
                long eight = (long) sign << shift;
                due("sign " + sign + " in a by " + shift, new YearKnot().feed(eight, 0, 0), want);
                due("sign " + sign + " in b by " + shift, new YearKnot().feed(0, eight, 0), want);
                due("sign " + sign + " in c by " + shift, new YearKnot().feed(0, 0, eight), want);
            }
        }
        due("a text among others", Check.net(new YearKnot(), "fo\tlk\r a\u0000 be\u007fnd\u00a0;"), 0);
    }

    // "the bytes of a, b, c, of each the highest first"
    private static void highestByteFirst() {
        YearKnot x = new YearKnot();
        x.feed(Check.eight("line 12;", 0), Check.eight("rope 345", 0), Check.eight(";takes 0", 0));
        due("24 signs", x.count(11), 24);
        x.feed(';', 0, 0);
        due("read as they came", x.net() + " " + x.count(2) + " " + x.count(3), "0 12 345");
        x.feed('l', Check.eight("ine ", 0), 0x3700_0000_0000_003BL);
        due("others between", x.net() + " " + x.count(2), "0 7");
    }

    // feed: ".. how many there are"
    private static void feedTellsHowManyThereAre() {
        YearKnot x = new YearKnot();
        due("none", x.feed(0, 0, 0), 0);
        due("24", x.feed(EIGHT_BLANKS, EIGHT_BLANKS, EIGHT_BLANKS), 24);
        due("none more", x.feed(0, -1, Long.MIN_VALUE), 24);
        due("one more", x.feed(0, 0, 126), 25);
        due("as counted", x.count(11), 25);
    }

    // "what reads it takes it: it is empty then"
    private static void whatReadsTakes() {
        YearKnot x = new YearKnot();
        due("net", Check.net(x, "line 7;"), 0);
        due("behind net", x.count(11) + " " + x.year() + " " + x.other() + " " + x.net(), "0 0 0 0");
        due("net", Check.net(x, "line 77;"), Told.fault(4, 5));
        due("behind a FAULT of net", x.count(11) + " " + x.year() + " " + x.other() + " " + x.net(), "0 0 0 0");
        due("year", Check.year(x, "cut 7;"), 0);
        due("behind year", x.count(11) + " " + x.other() + " " + x.net(), "0 0 0");
        due("year", Check.year(x, "cut 77;"), Told.fault(4, 4));
        due("behind a FAULT of year", x.count(11) + " " + x.other() + " " + x.net(), "0 0 0");
        due("net", Check.net(x, A_BEND), 0);
        due("other", Check.other(x, "a over;"), 0);
        due("behind other", x.count(11) + " " + x.year() + " " + x.net(), "0 0 0");
        due("other", Check.other(x, "cut 7;"), 1);
        due("behind a FAULT of other", x.count(11) + " " + x.year() + " " + x.net(), "0 0 0");
        x.feed(Check.eight("line ", 0), 0, 0);
        due("it is read anew from its beginning", Check.net(x, "9;") + " " + x.count(2), "0 9");
    }

    // "TOKENS, each as long as can be"
    private static void longestTokens() {
        wrong("folka bend;", 1, 0);
        wrong("folk abend;", 1, 10);
        wrong("line 25;", 4, 5);
        wrong("takes nota;", 1, 6);
        wrong("takes placesort;", 1, 6);
        wrong("takes 1and2or3 andor 4;", 1, 15);
        wrongYear("aover;", 2, 0);
        wrongYear("a overa;", 1, 2);
        wrongYear("pullpull;", 2, 0);
    }

    // "WORDS (letters a .. z, 8 at most)"; "(a longer WORD .. at its first sign)"
    private static void wordsOfEight() {
        good("folk abcdefgh bend;folk abcdefgi bend;folk abcdefg bend;folk bbcdefgh bend;");
        good("folk zzzzzzzz bend;folk zzzzzzz bend;folk z bend;folk a bend;");
        wrong("folk abcdefghi bend;", 1, 5);
        wrong("folk a bend;kin a abcdefghi;", 1, 18);
        wrong("folk abcdefghijklmnopqrstuvwxyz bend;", 1, 5);
        wrongYear("abcdefgh over;", 2, 0);
        wrongYear("abcdefghi over;", 1, 0);
        wrongOther("abcdefgh over;", 2, 0);
        wrongOther("abcdefghi over;", 1, 0);
    }

    // "NUMBERS (1 to 4 digits ..)"; "(a longer .. NUMBER, too, at its first sign)"
    private static void numbersOfFour() {
        good("line 1;rope 0999;");
        good("line 0024;rope 0000;");
        wrong("line 00024;", 1, 5);
        wrong("rope 00000;", 1, 5);
        wrong("rope 99999999999999999999;", 1, 5);
        good("takes 9999;");
        wrong("takes 10000;", 1, 6);
        goodYear("cut 0023;", 1);
        wrongYear("cut 00023;", 1, 4);
        wrongYear("cut 4294967296;", 1, 4);
    }

    // "a letter may stand right behind"
    private static void letterBehindANumber() {
        good("takes 1and 2or 3;");
        wrong("takes 1place;", 1, 7);
        wrong("line 5rope 6;", 1, 6);
        wrong("takes 12345and 1;", 1, 6);
        wrong("folk a1 bend;", 1, 6);
        good("line5;rope6;takes not0;");
        goodYear("cut5;", 1);
    }

    // "blanks (10, 32) between where one likes"
    private static void blanksBetween() {
        good("\n folk\n\na  bend\n;line\n5 ;");
        good("folk a bend;takes(1)*2<3;");
        good(" folk  a \n bend ; takes ( 1 ) * 2 < 3 ; ");
        good(" \n ");
        wrong("fo lk a bend;", 1, 0);
        wrong("line 1 2;", 1, 7);
        wrong("line 1\n2;", 1, 7);
        goodYear("\na\nover\n;\n", 1);
        goodYear("a over;pull ; cut\n1 ;", 3);
        goodOther("  a under;\na over;", 2);
    }

    // "All else .. is none"
    private static void allElseIsNone() {
        for (int sign = 33; sign < 127; sign++) {
            boolean digit = sign >= '0' && sign <= '9';
            boolean letter = sign >= 'a' && sign <= 'z';
            if (!digit) {
                wrong("line" + (char) sign + "5;", 1, letter ? 0 : 4);
            }
            if (!letter) {
                wrongYear("pull;" + (char) sign + "over;", 1, 5);
                wrongYear(FORTY + (char) sign, 1, 200);
            }
        }
    }

    // "NET: any number of .." (none, too); "1 it .. can't stand there"
    private static void anyNumberOfClauses() {
        good("");
        wrong(";", 1, 0);
        wrong("folk a bend;;", 1, 12);
        wrong("7;", 1, 0);
        wrong("a bend;", 1, 0);
        for (int i = 0; i < RESERVED.length; i++) {
            wrong(RESERVED[i], 1, i < 5 ? RESERVED[i].length() : 0);
        }
        for (String fact : FACTS) {
            wrong(fact + " a bend;", 1, 0);
        }
    }

    // "folk: 6 at most, numbered as told"; "5 one too many: the word folk of a seventh"
    private static void sixFolk() {
        String text = "folk f war;folk e bend;folk d slip;folk c hitch;folk b war;folk a bend;";
        YearKnot x = Told.net(CHECK, text);
        due("six", x.count(0), 6);
        int[] kinds = {3, 0, 1, 2, 3, 0};
        for (int f = 0; f < 6; f++) {
            due("as told " + f, x.folk(f, 0), kinds[f]);
        }
        due("the sixth", x.tie(5, false) + " " + x.at(0), "1 11");
        wrong(text + "folk g war;", 5, text.length());
        wrong(text + "folk", 5, text.length());
        wrong(text + "folk folk", 5, text.length());
        wrong(text + "folks", 1, text.length());
        good(text + "kin a b;line 3;");
    }

    // "A NAME is another WORD than ..; no two are alike"; "3 a NAME told already"
    private static void namesOfFolk() {
        for (String word : RESERVED) {
            wrong("folk " + word + " bend;", 1, 5);
            String all = word.substring(1);
            good("folk x" + word + " bend;folk " + word + "x bend;folk x" + all + " bend;folk " + all + " bend;");
            String most = word.substring(0, word.length() - 1);
            good("folk " + most + "q bend;folk " + most + " bend;");
            wrong(A_BEND + "kin a " + word + ";", 1, 18);
            wrong(A_BEND + "kin " + word + " a;", 1, 16);
        }
        for (String fact : FACTS) {
            good(A_BEND + "folk " + fact + " war;kin a " + fact + ";");
            YearKnot x = Told.net(CHECK, "folk " + fact + " bend;takes " + fact + "+5;");
            due("year of " + fact, Check.year(x, fact + " over;"), 0);
            due("other of " + fact, Check.other(x, fact + " under;"), 0);
        }
        wrong("folk a bend;folk a bend;", 3, 17);
        wrong("folk a bend;folk b slip;folk a war;", 3, 29);
        wrong("folk a bend;folk a", 3, 17);
        good("folk a bend;folk aa bend;folk ab bend;folk ba bend;folk b bend;folk bb bend;");
        good("folk bbb bend;folk aaa bend;folk z bend;folk zz bend;folk aaaaaaaa bend;folk bbbbbbbb bend;");
        wrong("folk;", 1, 4);
        wrong("folk 1 bend;", 1, 5);
    }

    // "KIND: bend, slip, hitch, war"
    private static void kindsOfFolk() {
        for (int kind = 0; kind < 4; kind++) {
            YearKnot x = Told.net(CHECK, "folk a " + KINDS[kind] + ";");
            due("KIND " + KINDS[kind], x.folk(0, 0), kind);
        }
        for (int i = 0; i < RESERVED.length; i++) {
            if (i < 9 || i > 12) {
                wrong("folk a " + RESERVED[i] + ";", 1, 7);
            }
        }
        wrong("folk a place;", 1, 7);
        wrong("folk a bends;", 1, 7);
        wrong("folk a hitc;", 1, 7);
        wrong("folk a b;", 1, 7);
        wrong("folk a 0;", 1, 7);
        wrong("folk a;", 1, 6);
    }

    // "folk NAME KIND ;   kin NAME NAME ;   line N ;   rope N ;   takes E ;"
    private static void clausesEndWithASign() {
        wrong("folk a bend folk b war;", 1, 12);
        wrong("folk a bend b;", 1, 12);
        wrong(TWO + "kin a b a;", 1, 31);
        wrong(TWO + "kin a b line 5;", 1, 31);
        wrong(TWO + "kin a;", 1, 28);
        wrong(TWO + "kin;", 1, 26);
        wrong(TWO + "kin a 1;", 1, 29);
        wrong("line 5 rope 6;", 1, 7);
        wrong("rope 6)", 1, 6);
        wrong("line;", 1, 4);
        wrong("rope rope;", 1, 5);
        wrong("line a;", 1, 5);
        wrong("line -1;", 1, 5);
        wrong("takes 1 line 5;", 1, 8);
    }

    // "kin: two FOLK told"; "2 a NAME of no FOLK (behind kin ..) told"
    private static void kinAreTold() {
        wrong("kin a b;folk a bend;folk b bend;", 2, 4);
        wrong(A_BEND + "kin a b;folk b bend;", 2, 18);
        wrong(A_BEND + "kin b a;", 2, 16);
        wrong(A_BEND + "kin b b;", 2, 16);
        wrong(A_BEND + "kin place a;", 2, 16);
        wrong(A_BEND + "kin a ab;", 2, 18);
    }

    // "kin: .. not the same"; "3 .. the second one of kin that is the first one"
    private static void kinAreTwo() {
        wrong(TWO + "kin a a;", 3, 29);
        wrong(TWO + "kin b b;", 3, 29);
        good(TWO + "kin b a;");
    }

    // "kin: .. each pair once"; "3 .. the second one .. of a pair told"
    private static void pairsAreToldOnce() {
        wrong(TWO + "kin a b;kin a b;", 3, 37);
        wrong(TWO + "kin a b;kin b a;", 3, 37);
        wrong(TWO + "kin b a;kin b a", 3, 37);
        StringBuilder all = new StringBuilder(Told.SIX_FREE);
        for (char one = 'a'; one <= 'f'; one++) {
            for (char two = 'a'; two < one; two++) {
                all.append("kin ").append(one).append(' ').append(two).append(';');
            }
        }
        YearKnot x = Told.net(CHECK, all.toString());
        due("all pairs", x.count(1), 15);
        for (int f = 0; f < 6; f++) {
            due("kin of all others", x.folk(f, 1), 63 - (1 << f));
        }
        wrong(all + "kin f a;", 3, all.length() + 6);
    }

    // "line: 1 to 24 ties (24)"; "4 a NUMBER that is not as told"
    private static void lineFrom1To24() {
        for (int told = 1; told <= 24; told++) {
            due("line " + told, Told.net(CHECK, "line " + told + ";").count(2), told);
        }
        wrong("line 0;", 4, 5);
        wrong("line 25;", 4, 5);
        wrong("line 9999;", 4, 5);
        wrong("line 0", 4, 5);
        due("without it", Told.net(CHECK, "rope 5;").count(2), 24);
    }

    // "rope 0 to 999 (200)"; "4 a NUMBER that is not as told"
    private static void ropeFrom0To999() {
        int[] good = {0, 1, 199, 200, 201, 998, 999};
        for (int told : good) {
            due("rope " + told, Told.net(CHECK, "rope " + told + ";").count(3), told);
        }
        wrong("rope 1000;", 4, 5);
        wrong("rope 9999;", 4, 5);
        wrong("rope 1000", 4, 5);
        due("without it", Told.net(CHECK, "line 5;").count(3), 200);
    }

    // "line, rope, takes: once each"; "3 .. line, rope, takes a second time"
    private static void toldOnce() {
        wrong("line 5;line 5;", 3, 7);
        wrong("line 5;rope 5;line", 3, 14);
        wrong("line 24;line 24;", 3, 8);
        wrong("rope 5;rope 6;", 3, 7);
        wrong("rope 200;rope 200;", 3, 9);
        wrong("rope 0;line 1;rope 0;", 3, 14);
        wrong("takes 0;takes 0;", 3, 8);
        wrong("takes 1+sort;line 5;takes", 3, 20);
        good("takes 1;line 1;rope 1;");
        good("rope 1;line 1;takes 1;");
    }

    // "any number of ..": in any order, and what stands behind counts for E, too
    private static void clausesInAnyOrder() {
        YearKnot x = Told.net(CHECK, "takes kins*10+sort;rope 99;folk a slip;line 2;folk b war;kin b a;");
        due("counts", Told.counts(x), "2 1 2 99 0 0 0 0 0 0 0");
        x.tie(0, true);
        due("kin told behind takes", x.count(4), 11);
    }

    // "YEAR: any number of  NAME over ;  NAME under ;  cut N ;  pull ;"
    private static void anyNumberOfYearLines() {
        goodYear("", 0);
        goodYear("pull;", 1);
        goodYear("a over;a under;cut 0;pull;", 4);
        goodYear(FORTY, 40);
        goodOther("", 0);
        goodOther("a over;a under;", 2);
        goodOther(TWENTY_FOUR, 24);
    }

    // "a place 0 to 23"; "4 a NUMBER that is not as told"
    private static void cutsOfAYear() {
        goodYear("cut 0;", 1);
        goodYear("cut 23;", 1);
        wrongYear("cut 24;", 4, 4);
        wrongYear("cut 9999;", 4, 4);
        wrongYear("cut 24", 4, 4);
        YearKnot x = Told.net(CHECK, "folk a bend;line 3;");
        due("a place beyond line can be told", Check.year(x, "cut 23;") + " " + x.count(7), "0 1");
    }

    // "1 it .. can't stand there": in a YEAR, in OTHER
    private static void forms() {
        wrongYear("a;", 1, 1);
        wrongYear("a bend;", 1, 2);
        wrongYear("a over", 1, 6);
        wrongYear("a over a under;", 1, 7);
        wrongYear("cut;", 1, 3);
        wrongYear("cut a;", 1, 4);
        wrongYear("cut 1 2;", 1, 6);
        wrongYear("pull 1;", 1, 5);
        wrongYear("pull pull;", 1, 5);
        wrongYear(";", 1, 0);
        wrongYear("1;", 1, 0);
        wrongOther("a;", 1, 1);
        wrongOther("a cut;", 1, 2);
        wrongOther("a under", 1, 7);
        wrongOther("a over;pull;", 1, 7);
        wrongOther("cut 1;", 1, 0);
        wrongOther("pull;", 1, 0);
        wrongOther(";", 1, 0);
        for (int i = 0; i < RESERVED.length; i++) {
            if (i != 7 && i != 8) {
                wrongYear(RESERVED[i] + " over;", 1, 0);
            }
            wrongOther(RESERVED[i] + " over;", 1, 0);
        }
    }

    // "2 a NAME of no FOLK (.. at the beginning of a line of YEAR, OTHER) told"
    private static void noFolkAtTheBeginning() {
        wrongYear("b over;", 2, 0);
        wrongYear("a over;b over;", 2, 7);
        wrongYear("place over;", 2, 0);
        wrongYear("a b;", 1, 2);
        wrongOther("b over;", 2, 0);
        wrongOther("a over;b", 2, 7);
        wrongOther("below over;", 2, 0);
        YearKnot x = new YearKnot();
        due("no FOLK at all", Check.year(x, "a over;") + " " + Check.other(x, "a over;"), "2 2");
        due("cut and pull without FOLK", Check.year(x, "cut 0;pull;"), 0);
        YearKnot six = Told.net(CHECK, Told.SIX_FREE);
        due("no FOLK beside six", Check.year(six, "f over;g over;") + " " + Check.other(six, "g under;"), "114 2");
        wrong(Told.SIX_FREE + "kin g a;", 2, 76);
    }

    // "40 lines at most"; "5 one too many: .. the first word of a 41st line of a YEAR"
    private static void theFortyFirstLine() {
        wrongYear(FORTY + "pull;", 5, 200);
        wrongYear(FORTY + "pull", 5, 200);
        wrongYear(FORTY + "cut 24;", 5, 200);
        wrongYear(FORTY + "a bend;", 5, 200);
        wrongYear(FORTY + "  \na over;", 5, 203);
        wrongYear("a over;" + FORTY, 5, 202);
        goodYear(FORTY.substring(5) + "a over;", 40);
        goodYear(FORTY + "  ", 40);
        wrongYear(FORTY + ";", 1, 200);
    }

    // "24 lines at most"; "5 one too many: .. of a 25th of OTHER"
    private static void theTwentyFifthLine() {
        wrongOther(TWENTY_FOUR + "a over;", 5, 168);
        wrongOther(TWENTY_FOUR + "a", 5, 168);
        wrongOther(TWENTY_FOUR + "\na bend;", 5, 169);
        goodOther(TWENTY_FOUR.substring(7) + "a under;", 24);
        goodOther(TWENTY_FOUR + "\n", 24);
        wrongOther(TWENTY_FOUR + ";", 1, 168);
        YearKnot x = Told.net(CHECK, "folk a bend;line 1;rope 0;");
        due("OTHER is not held to line and rope", Check.other(x, TWENTY_FOUR) + " " + x.count(8), "0 24");
    }

    // "E: TEST { and TEST or or TEST }"; "SUM: PRODUCT { + or - PRODUCT }"; "PRODUCT: PART { * PART }"; "PART: .."
    private static void partsOfALaw() {
        String[] parts = {"0", "9999", "place", "sort", "kins", "below", "not 1", "not not 1", "(1)", "not(1)"};
        String[] joints = {" and ", " or ", "+", "-", "*", "<", "="};
        for (String part : parts) {
            good("takes " + part + ";");
            for (String joint : joints) {
                good("takes " + part + joint + part + ";");
                good("takes (" + part + joint + part + ")" + joint + part + ";");
                wrong("takes " + part + joint + ";", 1, 6 + part.length() + joint.length());
            }
            wrong("takes " + part + " 1;", 1, 7 + part.length());
            wrong("takes " + part + ");", 1, 6 + part.length());
            wrong("takes " + part + " not 1;", 1, 7 + part.length());
            wrong("takes " + part + "(1);", 1, 6 + part.length());
        }
        for (String joint : joints) {
            wrong("takes " + joint.trim() + "1;", 1, 6);
            wrong("takes 1" + joint + joint.trim() + " 1;", 1, 7 + joint.length());
        }
        wrong("takes;", 1, 5);
        wrong("takes ();", 1, 7);
        wrong("takes (1;", 1, 8);
        wrong("takes (1));", 1, 9);
        wrong("takes not;", 1, 9);
        wrong("takes ann;", 1, 6);
        wrong("takes plac;", 1, 6);
        wrong("takes qlace;", 1, 6);
        wrong("takes kin;", 1, 6);
        wrong("takes sor;", 1, 6);
        wrong("takes belo;", 1, 6);
        wrong("takes 1 an 2;", 1, 8);
        wrong("takes 1 xr 2;", 1, 8);
        wrong("takes line;", 1, 6);
        wrong(A_BEND + "takes a;", 1, 18);
    }

    // "TEST: SUM, or SUM < SUM, or SUM = SUM"
    private static void oneComparison() {
        wrong("takes 1<2<3;", 1, 9);
        wrong("takes 1=2=3;", 1, 9);
        wrong("takes 1<2=3;", 1, 9);
        wrong("takes 1+1=2*2+1<3;", 1, 15);
        wrong("takes 1 and 2<3<4;", 1, 15);
        wrong("takes (1<2<3);", 1, 10);
        good("takes 1<2 and 2<3 or 3=4;");
        good("takes (1<2)<3;");
        good("takes 1<(2<3);");
        good("takes 1<not(2<3);");
        good("takes (1<2)=(3<4)and 5=6;");
    }

    // "no PART lies within 5 of not and ( )"; "5 .. not, or a PART, within 5 others"
    private static void withinFiveOthers() {
        good("takes ((((1))));");
        wrong("takes (((((1)))));", 5, 11);
        wrong("takes (((((place)))));", 5, 11);
        good("takes not not not not 1;");
        wrong("takes not not not not not 1;", 5, 26);
        wrong("takes not not not not not below;", 5, 26);
        wrong("takes not not not not not not 1;", 5, 26);
        wrong("takes (((((not 1)))));", 5, 11);
        wrong("takes ((((((1))))));", 5, 11);
        wrong("takes not(not(not 1));", 5, 18);
        good("takes not(not(1));");
        wrong("takes ((((1+(2)))));", 5, 13);
        good("takes (((1+(2))));");
        good("takes (1)+(2)+(3)+(4)+(5)+(6);");
        good("takes not 1+not 2+not 3+not 4+not 5+not 6;");
        good("takes ((((1))))*((((2))))+not not not not 3;");
        good("takes not(not(1+2)*not(3))+not not not not 4;");
        wrong("takes not not(not(1+2));", 5, 18);
        wrong("takes ((((1))))+(((((2)))));", 5, 21);
        wrong("takes ((((not 1))));", 5, 14);
    }

    // "the end being one at the text's length"
    private static void theEndIsAtTheLength() {
        wrong("folk", 1, 4);
        wrong("folk a bend", 1, 11);
        wrong("folk a bend \n ", 1, 14);
        wrong("takes 1", 1, 7);
        wrong("takes (1 ", 1, 9);
        wrong("takes", 1, 5);
        wrongYear("pull", 1, 4);
        wrongYear("a over;a\n", 1, 9);
        wrongYear("cut ", 1, 4);
        wrongOther("a ", 1, 2);
        wrong("line 5;" + " ".repeat(988) + "rope ", 1, 1000);
    }

    // ".. of the first token from the left that is wrong"
    private static void theFirstWrongToken() {
        wrong("line 0;rope 1000;A", 4, 5);
        wrong("line 5;rope 1000;A", 4, 12);
        wrong("line 5;rope 10;A", 1, 15);
        wrong("kin a a;", 2, 4);
        wrong("folk a bend;kin a a A", 3, 18);
        wrong("line 00 A;line 25", 4, 5);
        wrong("takes (((((1<2<3", 5, 11);
        wrong("takes 1<2<(((((1", 1, 9);
        wrong(" ".repeat(999) + "A", 1, 999);
        wrongYear("cut 24;b over;", 4, 4);
        wrongYear("a over;b over;cut 24;", 2, 7);
    }

    // ".. that is wrong the least": the least kind, if a token is wrong by two
    private static void theLeastKind() {
        wrongYear(FORTY + "b over;", 2, 200);
        wrongYear(FORTY + "over;", 1, 200);
        wrongYear(FORTY + "7;", 1, 200);
        wrongYear(FORTY + "abcdefghi over;", 1, 200);
        wrongOther(TWENTY_FOUR + "b over;", 2, 168);
        wrongOther(TWENTY_FOUR + "pull;", 1, 168);
        wrongOther(TWENTY_FOUR + "cut 1;", 1, 168);
        wrongOther(TWENTY_FOUR + "A", 1, 168);
        wrong("takes (((((+", 1, 11);
        wrong("takes (((((;", 1, 11);
        wrong("takes (((((", 1, 11);
        wrong("takes (((((12345", 1, 11);
        wrong("takes (((((and", 1, 11);
        wrong("takes not not not not not)", 1, 25);
    }

    // net, year, other: "0, or its FAULT (all stays then)"
    private static void aFaultKeepsAll() {
        YearKnot x = Told.net(CHECK, "folk a bend;folk b slip;kin a b;line 9;rope 77;takes 3+place;");
        Check.ties(x, "abA");
        Check.year(x, "a over;pull;");
        Check.other(x, "b over;b over;b over;");
        x.ahead(2, 0);
        x.mark(1, false);
        x.tie(1, true);
        String counts = "2 1 9 77 18 4 4 2 3 1 4";
        due("before", Told.counts(x), counts);
        String[] faults = {"folk z war;folk y hitch;folk", "line 5;rope 5;takes 0;line", "takes 0;takes 1;", ";"};
        for (String text : faults) {
            due("a FAULT of net", Check.net(x, text) > 0, true);
            due("behind '" + text + "'", Told.counts(x) + " " + Check.line(x), counts + " abAb");
        }
        due("a FAULT of year", Check.year(x, "cut 1;pull;pull;A"), Told.fault(1, 16));
        due("a FAULT of other", Check.other(x, "a over;z"), Told.fault(2, 7));
        due("behind both", Told.counts(x), counts);
        due("the NAMES stay", Check.year(x, "z over;"), 2);
        due("the YEAR stays", x.judged(0) + " " + x.judged(2), "1 1");
        due("the law stays", x.tie(0, true) + " " + x.count(4), "5 25");
        due("the MARK stays", x.mark(1, true) + " " + Check.line(x), "true abA");
        due("the KINDS stay", x.folk(0, 0) + " " + x.folk(1, 0) + " " + x.folk(1, 1), "0 1 1");
    }

    // "Without a FAULT a NET is the NET from then on: nothing is tied, .. no MARK is there."
    private static void aNetBeginsAnew() {
        YearKnot x = Told.net(CHECK, "folk a bend;folk b slip;kin a b;line 9;rope 77;takes 3;");
        Check.ties(x, "abA");
        Check.year(x, "a over;");
        Check.other(x, "b over;");
        x.ahead(2, 0);
        for (int mark = 0; mark < 4; mark++) {
            x.mark(mark, false);
        }
        due("net", Check.net(x, "folk c war;"), 0);
        due("all anew", Told.counts(x), "1 0 24 200 0 0 0 0 0 0 0");
        due("nothing can be undone", x.undo(), false);
        for (int mark = 0; mark < 4; mark++) {
            due("no MARK " + mark, x.mark(mark, true), false);
        }
        due("the NAMES are gone", Check.year(x, "a over;") + " " + Check.other(x, "b over;"), "2 2");
        due("without takes: 1 + sort", x.tie(0, true) + " " + x.count(4), "1 4");
        due("no kin", x.folk(0, 1), 0);
        due("an empty NET, too", x.net() + " " + Told.counts(x), "0 0 0 24 200 0 0 0 0 0 0 0");
    }

    private static void dueAnew(YearKnot x, String net, String counts, int kin, int used) {
        due("net " + net, Check.net(x, net), 0);
        due("counts of " + net, Told.counts(x), counts);
        due("kin in " + net, x.folk(0, 1), kin);
        due("USED in " + net, x.tie(0, true) + " " + x.count(4), "1 " + used);
    }

    // "Without a FAULT a NET is the NET from then on": it, and nothing of any one before it
    private static void netsOneAfterAnother() {
        YearKnot x = new YearKnot();
        for (int n = 0; n < 3; n++) {
            dueAnew(x, "folk a bend;folk b war;kin a b;takes 7;line 3;rope 50;", "2 1 3 50 0 0 0 0 0 0 0", 2, 7);
            dueAnew(x, "folk c war;", "1 0 24 200 0 0 0 0 0 0 0", 0, 4);
            due("NAMES", Check.year(x, "c over;") + " " + Check.year(x, "a over;") + " " + Check.year(x, "b over;"),
                    "0 2 2");
            dueAnew(x, "takes 5+1;folk b slip;", "1 0 24 200 0 0 0 0 0 0 0", 0, 6);
            dueAnew(x, "folk c hitch;folk b bend;rope 30;", "2 0 24 30 0 0 0 0 0 0 0", 0, 3);
            due("NAMES", Check.year(x, "c over;b over;") + " " + Check.year(x, "a over;"), "0 2");
            dueAnew(x, "line 4;folk a slip;folk b slip;folk c slip;kin a c;", "3 1 4 200 0 0 0 0 0 0 0", 4, 2);
            dueAnew(x, "takes kins+1 and 0;folk a bend;folk b bend;kin b a;", "2 1 24 200 0 0 0 0 0 0 0", 2, 0);
        }
    }

    // "0, or its FAULT (all stays then)": the next one is read as if there had been none
    private static void netsBehindFaults() {
        YearKnot x = new YearKnot();
        String[] faults = {"takes ((((", "takes not not not not", "takes 1+2*3<4 and", "takes 1<2;takes 1",
            "takes not", "takes 7*not 1*not", "line 3;rope 3;A",
            "folk a bend;folk b bend;kin a b;folk c", "takes (1 or (2 and", "rope 7;line 7;line", "takes (((((("};
        for (String fault : faults) {
            for (int n = 0; n < 2; n++) {
                due("a FAULT", Check.net(x, fault) > 0, true);
                dueAnew(x, "folk a bend;folk b bend;kin a b;line 9;rope 9;takes ((((1))))+4+not not not not 1;",
                        "2 1 9 9 0 0 0 0 0 0 0", 2, 6);
                due("a FAULT", Check.net(x, fault) > 0, true);
                dueAnew(x, "folk a hitch;", "1 0 24 200 0 0 0 0 0 0 0", 0, 3);
            }
        }
    }

    // "YEAR, OTHER are these": each is the one told last, and touches nothing else
    private static void yearAndOtherReplace() {
        YearKnot x = Told.four(CHECK, "ab");
        x.ahead(0, 1);
        due("year", Check.year(x, "a over;pull;cut 0;"), 0);
        due("other", Check.other(x, "a over;b over;"), 0);
        due("both", Told.counts(x), "4 2 24 200 3 2 2 3 2 1 2");
        due("another year", Check.year(x, "c over;") + " " + x.count(7) + " " + x.judged(2), "0 1 1");
        due("another other", Check.other(x, "d over;") + " " + x.count(8), "0 1");
        due("no year", x.year() + " " + x.count(7), "0 0");
        due("no other", x.other() + " " + x.count(8), "0 0");
        due("all else", Told.counts(x), "4 2 24 200 3 2 2 0 0 1 2");
    }

    // folk: "what 0: KIND ..., 1: kin as bits; NONE: others"
    private static void folkAndWhat() {
        YearKnot x = Told.net(CHECK, Told.FOUR);
        due("KINDS", x.folk(0, 0) + " " + x.folk(1, 0) + " " + x.folk(2, 0) + " " + x.folk(3, 0), "0 1 2 3");
        due("kin", x.folk(0, 1) + " " + x.folk(1, 1) + " " + x.folk(2, 1) + " " + x.folk(3, 1), "2 5 2 0");
        due("a fifth", x.folk(4, 0) + " " + x.folk(4, 1), "-1 -1");
        due("what 2", x.folk(0, 2), -1);
        for (int wrong : Told.WRONG) {
            due("folk " + wrong, x.folk(wrong, 0) + " " + x.folk(wrong, 1), "-1 -1");
            due("what " + wrong, x.folk(0, wrong), -1);
        }
    }
}
