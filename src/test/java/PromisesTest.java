/** Each promise of the document: ordinary inputs, the edges that it names, and wrong inputs. */
public final class PromisesTest {
    // a bend, b slip, c hitch, d war; a and b, b and c are kin.
    private static final String FOUR = "folk a bend;folk b slip;folk c hitch;folk d war;kin a b;kin b c;";
    private static final int[] WRONG = {-1, -2, 99, Integer.MAX_VALUE, Integer.MIN_VALUE};

    private static final Check CHECK = new Check();

    public static void main(String[] args) {
        aNewObject();
        feed();
        net();
        faultsOfNet();
        faultsOfLaw();
        year();
        other();
        folk();
        tie();
        takes();
        cut();
        pull();
        undo();
        judged();
        atAndForm();
        outAndHeld();
        fault();
        sum();
        shown();
        loose();
        yet();
        cuts();
        ahead();
        orders();
        ask();
        same();
        pass();
        ring();
        rests();
        centuries();
        mark();
        count();
        CHECK.end();
    }

    private static void due(String what, Object got, Object want) {
        CHECK.due(what, got, want);
    }

    private static YearKnot four(String row) {
        YearKnot x = new YearKnot();
        due("net", Check.net(x, FOUR), 0);
        Check.ties(x, row);
        due("ties", x.count(5), row.length());
        return x;
    }

    private static YearKnot told(String net, String row) {
        YearKnot x = new YearKnot();
        due("net " + net, Check.net(x, net), 0);
        Check.ties(x, row);
        due("ties of " + row, x.count(5), row.length());
        return x;
    }

    private static void aNewObject() {
        YearKnot x = new YearKnot();
        int[] counts = {0, 0, 24, 200, 0, 0, 0, 0, 0, 0, 0, 0};
        for (int i = 0; i < counts.length; i++) {
            due("1 count " + i, x.count(i), counts[i]);
        }
        due("1 out", x.out(), true);
        due("1 undo", x.undo(), false);
        due("1 tie", x.tie(0, true), -1);
        due("1 mark", x.mark(0, true), false);
        due("1 NONE", YearKnot.NONE, -1);
    }

    private static void feed() {
        YearKnot x = new YearKnot();
        due("2 nothing", x.feed(0, 0, 0), 0);
        due("2 other signs", x.feed(0x0900_7F80_FF1F_0B0DL, -1L, Long.MIN_VALUE), 0);
        due("2 edges", x.feed(0x0A20_7E00_0000_0000L, 0, 0x2041L), 5);
        due("2 the highest first", Check.net(x, ""), 1 + 16 * 2);
        due("2 taken", x.count(11), 0);
        for (int i = 1; i <= 41; i++) {
            due("2 filling", x.feed(0x2020202020202020L, 0x2020202020202020L, 0x2020202020202020L), 24 * i);
        }
        due("2 the last", x.feed(0x2020202020202020L, 0x2020202020202020L, 0x2020202020202020L), 1000);
        due("2 full", x.feed(0x4141414141414141L, 0x41L, 0), 1000);
        due("2 what is beyond is left out", x.net(), 0);
        due("2 order", Check.net(x, "rope 12;line 3;"), 0);
        due("2 rope", x.count(3), 12);
        due("2 line", x.count(2), 3);
    }

    private static void net() {
        YearKnot x = four("abcd");
        Check.year(x, "a over;");
        Check.other(x, "a over;");
        x.ahead(0, 1);
        x.mark(2, false);
        due("3 fault keeps all", Check.net(x, "folk z bend"), 1 + 16 * 11);
        int[] kept = {4, 2, 24, 200, 10, 4, 4, 1, 1, 1, 4, 0};
        for (int i = 0; i < kept.length; i++) {
            due("3 kept " + i, x.count(i), kept[i]);
        }
        due("3 empty net", x.net(), 0);
        int[] anew = {0, 0, 24, 200, 0, 0, 0, 0, 0, 0, 0, 0};
        for (int i = 0; i < anew.length; i++) {
            due("3 anew " + i, x.count(i), anew[i]);
        }
        due("3 no mark", x.mark(2, true), false);
        due("3 nothing undone", x.undo(), false);
        due("3 blanks", Check.net(x, "\n folk\nplace  bend\n;folk sort war;kin sort place;line 0024;rope0999;takes 1and 2;"), 0);
        due("3 facts are names", x.count(0), 2);
        due("3 kin bits", x.folk(1, 1), 1);
        due("3 line", x.count(2), 24);
        due("3 rope", x.count(3), 999);
        due("3 defaults come back", Check.net(x, "folk a bend;"), 0);
        due("3 rope again", x.count(3), 200);
        due("3 takes again", x.tie(0, true), 1);
        due("3 used", x.count(4), 1);
    }

    private static void netFault(String text, int kind, int place) {
        YearKnot x = new YearKnot();
        due("3 fault of " + text, Check.net(x, text), kind + 16 * place);
        due("3 taken " + text, x.count(11), 0);
        due("3 no folk " + text, x.count(0), 0);
    }

    private static void faultsOfNet() {
        netFault("folk", 1, 4);
        netFault("folk  ", 1, 6);
        netFault(";", 1, 0);
        netFault("bend;", 1, 0);
        netFault("ann;", 1, 0);
        netFault("folk abcdefgh bend;x", 1, 19);
        netFault("folk abcdefghi bend;", 1, 5);
        netFault("folk A bend;", 1, 5);
        netFault("folk 1 bend;", 1, 5);
        netFault("folk not bend;", 1, 5);
        netFault("folk a place;", 1, 7);
        netFault("folk a bend bend;", 1, 12);
        netFault("folk a bend;folk a king;", 3, 17);
        netFault("folk a bend;kin b a;", 2, 16);
        netFault("folk a bend;kin a b;", 2, 18);
        netFault("folk a bend;kin a a;", 3, 18);
        netFault("folk a bend;kin a war;", 1, 18);
        netFault("folk a bend;folk b war;kin a b;kin b a;", 3, 37);
        netFault("folk a bend;folk b war;kin a b;kin a b;", 3, 37);
        netFault("line;", 1, 4);
        netFault("line 0;", 4, 5);
        netFault("line 25;", 4, 5);
        netFault("line 10000;", 1, 5);
        netFault("line 1 2;", 1, 7);
        netFault("line 1;line 99;", 3, 7);
        netFault("rope 1000;", 4, 5);
        netFault("rope 1;rope;", 3, 7);
        netFault("rope -1;", 1, 5);
        netFault("takes 1;takes;", 3, 8);
        netFault(";".repeat(1000), 1, 0);
        netFault("takes " + "(".repeat(994), 5, 11);
        netFault("takes 1" + "*1".repeat(496) + "+", 1, 1000);
        String six = "folk a war;folk b war;folk c war;folk d war;folk e war;folk f war;";
        netFault(six + "folk", 5, 66);
        netFault(six + "folk a", 5, 66);
        due("3 six", Check.net(new YearKnot(), six), 0);
    }

    private static void faultsOfLaw() {
        netFault("takes;", 1, 5);
        netFault("takes ann;", 1, 6);
        netFault("takes 1", 1, 7);
        netFault("takes 1+;", 1, 8);
        netFault("takes 1 1;", 1, 8);
        netFault("takes 1<2<3;", 1, 9);
        netFault("takes 1=2<3;", 1, 9);
        netFault("takes -1;", 1, 6);
        netFault("takes 1 not 2;", 1, 8);
        netFault("takes (1;", 1, 8);
        netFault("takes 1);", 1, 7);
        netFault("takes ();", 1, 7);
        netFault("takes 12345;", 1, 6);
        netFault("takes ((((( 1)))));", 5, 12);
        netFault("takes ((((((1))))));", 5, 11);
        netFault("takes ((((( );", 1, 12);
        netFault("takes ((((( +);", 1, 12);
        netFault("takes not not not not not 1;", 5, 26);
        netFault("takes not not not not not not 1;", 5, 26);
        netFault("takes (not(not place)+not(not 0)+((((1)))));", 5, 37);
        netFault("takes not(not(not(1)));", 5, 17);
        String[] good = {"takes ((((1))));", "takes not not not not 1;", "takes 1<2 and 3=4 or(5<6)<7;",
            "takes not(not(1))*not not not not 1+((1<2)<3);", "takes 1and 2or 3;"};
        for (String text : good) {
            due("3 good " + text, Check.net(new YearKnot(), text), 0);
        }
    }

    private static void year() {
        YearKnot x = four("a");
        due("4 year", Check.year(x, "a over;b under;cut 23;pull;"), 0);
        due("4 lines", x.count(7), 4);
        due("4 taken", x.count(11), 0);
        due("4 line stays", x.count(5), 1);
        due("4 no folk", Check.year(x, "z over;"), 2);
        due("4 stays", x.count(7), 4);
        due("4 side", Check.year(x, "a pull;"), 1 + 16 * 2);
        due("4 reserved", Check.year(x, "over;"), 1);
        due("4 number", Check.year(x, "cut 24;"), 4 + 16 * 4);
        due("4 no number", Check.year(x, "cut;"), 1 + 16 * 3);
        due("4 end", Check.year(x, "a over; pull "), 1 + 16 * 13);
        StringBuilder forty = new StringBuilder();
        for (int i = 0; i < 40; i++) {
            forty.append("pull;");
        }
        due("4 forty", Check.year(x, forty.toString()), 0);
        due("4 forty lines", x.count(7), 40);
        due("4 a 41st", Check.year(x, forty + "a over;"), 5 + 16 * 200);
        due("4 a 41st pull", Check.year(x, forty + "pull"), 5 + 16 * 200);
        due("4 a 41st of no folk", Check.year(x, forty + "z over;"), 2 + 16 * 200);
        due("4 a 41st that can't be", Check.year(x, forty + "bend;"), 1 + 16 * 200);
        due("4 empty", x.year(), 0);
        due("4 none", x.count(7), 0);
    }

    private static void other() {
        YearKnot x = four("a");
        due("5 other", Check.other(x, "a over;b under;"), 0);
        due("5 ties", x.count(8), 2);
        due("5 cut", Check.other(x, "cut 1;"), 1);
        due("5 pull", Check.other(x, "a over;pull;"), 1 + 16 * 7);
        due("5 no folk", Check.other(x, "e over;"), 2);
        due("5 stays", x.count(8), 2);
        due("5 taken", x.count(11), 0);
        String row = "a over;".repeat(24);
        due("5 a 25th", Check.other(x, row + "a over;"), 5 + 16 * 168);
        due("5 a 25th of no folk", Check.other(x, row + "g"), 2 + 16 * 168);
        due("5 24", Check.other(x, row), 0);
        due("5 24 ties", x.count(8), 24);
        due("5 empty", x.other(), 0);
        due("5 none", x.count(8), 0);
    }

    private static void folk() {
        YearKnot x = four("");
        for (int f = 0; f < 4; f++) {
            due("6 kind " + f, x.folk(f, 0), f);
        }
        due("6 kin of a", x.folk(0, 1), 2);
        due("6 kin of b", x.folk(1, 1), 5);
        due("6 kin of c", x.folk(2, 1), 2);
        due("6 kin of d", x.folk(3, 1), 0);
        due("6 no folk", x.folk(4, 0), -1);
        for (int w : WRONG) {
            due("6 wrong folk", x.folk(w, 1), -1);
            due("6 wrong what", x.folk(1, w), -1);
        }
        due("6 what 2", x.folk(1, 2), -1);
    }

    private static void tie() {
        YearKnot x = told("folk a bend;folk b slip;line 3;rope 5;", "");
        due("7 first", x.tie(0, true), 1);
        due("7 second", x.tie(1, false), 2);
        due("7 as told", Check.line(x), "aB");
        due("7 third", x.tie(1, true), 3);
        due("7 line is full", x.tie(0, true), -1);
        due("7 cut", x.cut(0), 2);
        due("7 rope", x.tie(1, true), -1);
        due("7 just enough rope", x.tie(0, true), 3);
        for (int w : WRONG) {
            due("7 wrong folk", x.tie(w, true), -1);
        }
        due("7 no folk", x.tie(2, true), -1);
        YearKnot y = told("folk a bend;rope 0;", "");
        due("7 no rope", y.tie(0, true), -1);
        due("7 nothing to undo", y.count(10), 0);
        YearKnot z = told("folk a bend;rope 0;takes 0;", "a".repeat(24));
        due("7 24 ties", z.tie(0, true), -1);
    }

    private static void takes() {
        String[][] laws = {
            // a law, and what an under tie of b (slip, with two kin) takes at place 1
            {"place", "1"}, {"sort", "1"}, {"kins", "2"}, {"below", "1"}, {"9999", "99"}, {"0-5", "0"},
            {"2+3*4", "14"}, {"(2+3)*4", "20"}, {"9-3-2", "4"}, {"not 0", "1"}, {"not 7", "0"}, {"not not 7", "1"},
            {"not 0+1", "2"}, {"not 0*5", "5"}, {"1<2", "1"}, {"2<1", "0"}, {"2=2", "1"}, {"1+1=2", "1"},
            {"1<1+1", "1"}, {"5 and 3", "1"}, {"5 and 0", "0"}, {"0 or 7", "1"}, {"0 or 0", "0"}, {"7", "7"},
            {"0 and 0 or 1", "1"}, {"1 or 0 and 0", "0"}, {"1 or(0 and 0)", "1"}, {"9999*9999*100+1", "99"},
            {"9999*9999*9999", "0"}, {"2-3=0-1", "1"}, {"3*2<7 and 1", "1"}, {"not(1<2)*9+4", "4"},
        };
        for (String[] law : laws) {
            YearKnot x = told("folk a bend;folk b slip;folk c war;kin a b;kin c b;rope 999;takes " + law[0] + ";", "a");
            int before = x.count(4);
            x.tie(1, false);
            due("7 takes " + law[0], x.count(4) - before, law[1]);
        }
        YearKnot full = told("takes " + "1+".repeat(496) + "1;", "");
        due("7 a full tape", Check.net(full, "folk a bend;rope 999;takes " + "1+".repeat(50) + "1-13;"), 0);
        full.tie(0, true);
        due("7 a long law", full.count(4), 38);
        YearKnot deep = told("folk a bend;takes 1 and 0<1+2*(1 and 0<1+2*(1 and 0<1+2*(1 and 0<1+2*3)));", "a");
        due("7 a deep law", deep.count(4), 1);
        YearKnot x = told("folk a bend;folk b slip;folk c hitch;folk d war;", "abcd");
        due("7 without takes", x.count(4), 10);
        YearKnot y = told("folk a bend;takes place*10;", "aaaa");
        due("7 by places", y.count(4), 60);
        y.cut(0);
        due("7 by places when one is cut", y.count(4), 30);
        YearKnot z = told("folk a bend;rope 99;takes 100;", "a");
        due("7 at most 99", z.count(4), 99);
    }

    private static void cut() {
        YearKnot x = four("abcd");
        due("8 no place", x.cut(4), -1);
        for (int w : WRONG) {
            due("8 wrong place", x.cut(w), -1);
        }
        due("8 in the middle", x.cut(1), 3);
        due("8 those behind move up", Check.line(x), "acd");
        due("8 the last", x.cut(2), 2);
        due("8 the first", x.cut(0), 1);
        due("8 all", x.cut(0), 0);
        due("8 none is left", x.cut(0), -1);
    }

    private static void pull() {
        YearKnot x = four("abA");
        due("9 kin hold it", x.pull(), -1);
        due("9 nothing to undo but ties", x.count(10), 3);
        YearKnot y = four("acA");
        due("9 pulled", y.pull(), 1);
        due("9 left", Check.line(y), "c");
        due("9 again", y.pull(), -1);
        YearKnot z = four("da");
        due("9 as many, but another row", z.pull(), 2);
        due("9 the lesser folk first", Check.line(z), "ad");
        YearKnot empty = four("");
        due("9 nothing tied", empty.pull(), -1);
        YearKnot slip = four("B");
        due("9 a slip is put over", slip.pull(), 1);
        due("9 over", Check.line(slip), "b");
        YearKnot war = four("DD");
        due("9 a war by fours", war.pull(), 2);
        due("9 over over", Check.line(war), "dd");
    }

    private static void undo() {
        YearKnot x = four("acA");
        x.pull();
        x.cut(0);
        due("10 count", x.count(10), 5);
        due("10 cut undone", x.undo(), true);
        due("10 row", Check.line(x), "c");
        due("10 pull undone", x.undo(), true);
        due("10 row", Check.line(x), "acA");
        due("10 tie undone", x.undo(), true);
        due("10 row", Check.line(x), "ac");
        due("10 left", x.count(10), 2);
        x.undo();
        x.undo();
        due("10 none left", x.undo(), false);
        YearKnot y = four("a".repeat(20));
        due("10 sixteen", x.count(10), 0);
        due("10 sixteen", y.count(10), 16);
        for (int i = 0; i < 16; i++) {
            due("10 undo " + i, y.undo(), true);
        }
        due("10 no seventeenth", y.undo(), false);
        due("10 four stay", y.count(5), 4);
        y.cut(9);
        due("10 what can't be is not kept", y.count(10), 0);
    }

    private static void judged() {
        YearKnot x = told("folk a bend;folk b slip;kin a b;line 4;rope 9;", "a");
        due("11 no year", x.judged(0) + " " + x.judged(1) + " " + x.judged(2), "-1 -1 0");
        Check.year(x, "a over;b over;a under;pull;cut 1;a over;");
        due("11 a pull that turns nothing", x.judged(0), 3);
        due("11 out behind the cut", x.judged(1), 4);
        due("11 ties at last", x.judged(2), 1);
        Check.year(x, "cut 0;");
        due("11 a cut without a tie", x.judged(0), 0);
        due("11 empty does not count as out", x.judged(1), -1);
        Check.year(x, "a over;a over;a over;a over;a over;b over;");
        due("11 the line is full", x.judged(0), 4);
        due("11 left out", x.judged(2), 4);
        Check.year(x, "b over;b over;b over;b over;b over;");
        due("11 full by line", x.judged(0), 4);
        due("11 out at once", x.judged(1), 1);
        due("11 nothing at last", x.judged(2), 0);
        Check.net(x, "folk a bend;folk b slip;rope 3;");
        Check.year(x, "b over;b over;a over;pull;");
        due("11 rope", x.judged(0), 1);
        due("11 the rest can be", x.judged(2), 2);
        due("11 the line is not touched", x.count(5), 0);
        for (int w : WRONG) {
            due("11 wrong what", x.judged(w), -2);
        }
        due("11 what 3", x.judged(3), -2);
    }

    private static void atAndForm() {
        YearKnot x = four("dAcC");
        due("12 at", x.at(0) + " " + x.at(1) + " " + x.at(2) + " " + x.at(3), "6 1 4 5");
        due("13 form", x.form(0) + " " + x.form(1), "1 6");
        due("12 none", x.at(4), -1);
        due("13 none", x.form(2), -1);
        for (int w : WRONG) {
            due("12 wrong", x.at(w), -1);
            due("13 wrong", x.form(w), -1);
        }
        String[][] forms = {{"", ""}, {"aA", ""}, {"Aa", ""}, {"aaA", "a"}, {"bb", ""}, {"bB", ""}, {"BB", ""},
            {"ccc", ""}, {"cc", "C"}, {"CC", "c"}, {"CCC", ""}, {"dddd", ""}, {"ddd", "D"}, {"DD", "dd"}, {"Dd", ""},
            {"DDDD", ""}, {"aba", "aba"}, {"abBA", ""}, {"cbac", "cbac"}, {"ca", "ac"}, {"dcba", "cbad"},
            {"cAcac", ""}, {"bdbd", "dd"}, {"AbA", "AbA"}, {"bacbacbac", "bacbacbac"}, {"bccbcb", "bCbcb"}};
        for (String[] f : forms) {
            due("13 form of " + f[0], Check.form(four(f[0])), f[1]);
        }
    }

    private static void outAndHeld() {
        String[][] rows = {{"", "true", "0"}, {"a", "false", "1"}, {"aA", "true", "0"}, {"abAb", "false", "3"},
            {"adAD", "true", "0"}, {"cbC", "false", "6"}, {"acAdC", "false", "8"}, {"bbbb", "true", "0"}};
        for (String[] r : rows) {
            due("14 out of " + r[0], four(r[0]).out(), r[1]);
            due("15 held of " + r[0], four(r[0]).held(), r[2]);
        }
    }

    private static void fault() {
        due("16 none tied", four("").fault(), 0);
        due("16 all of it", four("aA").fault(), 1);
        due("16 it comes out: each alone is at fault", four("aAdD").fault(), 9);
        due("16 either", four("abAb").fault(), 3);
        due("16 no one alone", four("cac").fault(), 0);
        due("16 c", four("acA").fault(), 4);
        due("16 neither", four("ab").fault(), 0);
        due("16 only those with ties", four("d").fault(), 8);
    }

    private static void sum() {
        YearKnot x = four("AAbbbCDAD");
        due("17 bend", x.sum(0), -3);
        due("17 slip", x.sum(1), 1);
        due("17 hitch", x.sum(2), 2);
        due("17 war", x.sum(3), 2);
        due("17 war 3", four("D").sum(3), 3);
        due("17 slip under", four("B").sum(1), 1);
        due("17 nothing", four("").sum(2), 0);
        CHECK.dueThrow("17 no folk", () -> x.sum(4));
        for (int w : WRONG) {
            CHECK.dueThrow("17 wrong", () -> x.sum(w));
        }
        CHECK.dueThrow("17 no net", () -> new YearKnot().sum(0));
    }

    private static void shown() {
        due("18 none", four("").shown(), -1);
        due("18 out", four("abBA").shown(), -1);
        due("18 one alone is both", four("d").shown(), 3 * 6 + 3);
        due("18 a with its kin comes first", four("b").shown(), 1);
        due("18 two kin", four("abAb").shown(), 1);
        due("18 the second pair", four("cbCb").shown(), 8);
        due("18 first alone", four("a").shown(), 0);
        // each two alone come out, but the three together do not
        YearKnot x = told("folk a slip;folk b slip;folk c slip;kin a b;kin b c;kin a c;", "ababcbabac");
        due("18 it does not come out", x.out(), false);
        due("18 and no two show it", x.shown(), -1);
    }

    private static void loose() {
        due("19 none", four("").loose(0) + " " + four("").loose(1), "0 -1");
        due("19 nothing loose", four("abA").loose(0) + " " + four("abA").loose(1), "0 -1");
        due("19 all", four("abBA").loose(0) + " " + four("abBA").loose(1), "4 0");
        due("19 the most", four("aAbddDDc").loose(0) + " " + four("aAbddDDc").loose(1), "4 3");
        due("19 what others' ties do not hold", four("bacAC").loose(0) + " " + four("bacAC").loose(1), "4 1");
        due("19 the first of equal ones", four("aAbcC").loose(0) + " " + four("aAbcC").loose(1), "2 0");
        for (int w : WRONG) {
            due("19 wrong", four("aA").loose(w), -2);
        }
        due("19 what 2", four("aA").loose(2), -2);
    }

    private static void yet() {
        String[][] rows = {{"", ""}, {"a", "A"}, {"A", "a"}, {"b", "b"}, {"c", "C"}, {"cc", "c"}, {"D", "d"},
            {"dd", "dd"}, {"ab", "bA"}, {"ad", "AD"}, {"da", "AD"}, {"abA", "abA"}, {"cba", "AbC"}, {"aA", ""},
            {"abcd", "CbAD"}};
        for (String[] r : rows) {
            YearKnot x = four(r[0]);
            due("20 yet of " + r[0], Check.yet(x), r[1]);
            due("20 how many of " + r[0], x.yet(-1), r[1].length());
            due("20 beyond of " + r[0], x.yet(r[1].length()), -2);
        }
        YearKnot full = told("folk a bend;line 3;rope 3;", "aaa");
        due("20 line and rope aside", full.yet(-1), 3);
        due("20 wrong", full.yet(-2), -2);
        due("20 wrong", full.yet(Integer.MIN_VALUE), -2);
        due("20 wrong", full.yet(Integer.MAX_VALUE), -2);
    }

    private static void cuts() {
        due("21 none", four("").cuts(), 0);
        due("21 out", four("abBA").cuts(), 0);
        due("21 one", four("a").cuts(), 1);
        due("21 the least set", four("aaA").cuts(), 1);
        due("21 the middle", four("abA").cuts(), 2);
        due("21 two", four("abAb").cuts(), 5);
        due("21 three", four("abcABC").cuts(), Integer.parseInt("010010", 2));
        due("21 slips by twos", four("bbb").cuts(), 1);
        due("21 hitches", four("cccc").cuts(), 1);
        due("21 wars", four("ddddd").cuts(), 1);
        due("21 wars under", four("dD".repeat(2) + "D").cuts(), 2);
        due("21 fourteen", four("ab".repeat(7)).cuts(), Integer.parseInt("01010101010111", 2));
        due("21 fifteen", four("ab".repeat(7) + "a").cuts(), -1);
        due("21 fifteen that come out", four("d".repeat(12) + "ccc").cuts(), -1);
        due("21 fourteen that come out", four("d".repeat(8) + "cccccc").cuts(), 0);
    }

    private static void ahead() {
        YearKnot x = four("adad");
        due("22 ahead", x.ahead(1, 0), true);
        due("22 the same", x.ahead(2, 2), false);
        due("22 no tie", x.ahead(0, 4), false);
        due("22 no tie", x.ahead(4, 0), false);
        for (int w : WRONG) {
            due("22 wrong", x.ahead(w, 0), false);
            due("22 wrong", x.ahead(0, w), false);
        }
        due("22 one", x.count(9), 1);
        for (int i = 0; i < 7; i++) {
            due("22 more", x.ahead(3, 2), true);
        }
        due("22 eight there are", x.ahead(0, 3), false);
        due("22 eight", x.count(9), 8);
        x.tie(0, true);
        due("22 a tie leaves it", x.count(9), 8);
        x.cut(9);
        due("22 no cut leaves it", x.count(9), 8);
        x.cut(0);
        due("22 it goes by a cut", x.count(9), 0);
        x.ahead(0, 1);
        x.undo();
        due("22 it goes by undoing", x.count(9), 0);
        YearKnot y = four("ad");
        y.ahead(0, 1);
        due("22 a pull of nothing", y.pull(), -1);
        due("22 leaves it", y.count(9), 1);
        y.tie(0, true);
        y.pull();
        due("22 it goes by a pull", y.count(9), 0);
    }

    private static void orders() {
        due("23 none", four("").orders(), 1);
        due("23 one folk", four("aaa").orders(), 1);
        due("23 kin", four("abab").orders(), 1);
        due("23 free", four("adad").orders(), 6);
        due("23 three", four("acd").orders(), 6);
        due("23 mixed", four("abcd").orders(), 4);
        YearKnot x = four("adad");
        x.ahead(1, 0);
        due("23 ahead", x.orders(), 3);
        x.ahead(0, 1);
        due("23 never", x.orders(), 0);
        String free = "folk a bend;folk b bend;folk c bend;folk d bend;folk e bend;folk f bend;";
        due("23 fourteen", told(free, "aaabbbccddeeff").orders(), 151351200L);
        due("23 fifteen", told(free, "aaabbbccddeefff").orders(), -1);
        YearKnot y = told("folk a bend;folk b bend;", "ab");
        y.ahead(0, 1);
        due("23 by ahead alone", y.orders(), 1);
    }

    private static void ask() {
        due("24 none", four("").ask(), -1);
        due("24 one order", four("abab").ask(), -1);
        due("24 two", four("ad").ask(), 1);
        due("24 halves", four("aad").ask(), 2);
        due("24 the first of equal ones", four("ada").ask(), 1);
        due("24 later", four("abd").ask(), 2);
        due("24 as places", four("babd").ask(), 1 * 24 + 3);
        YearKnot x = four("ad");
        x.ahead(1, 0);
        due("24 told already", x.ask(), -1);
        x.ahead(0, 1);
        due("24 no order", x.ask(), -1);
        due("24 fourteen", four("adadadadadadad").ask() >= 0, true);
        due("24 fifteen", four("adadadadadadada").ask(), -1);
    }

    private static YearKnot two(String row, String other) {
        YearKnot x = four(row);
        StringBuilder text = new StringBuilder();
        for (char c : other.toCharArray()) {
            text.append((char) (c | 32)).append(c >= 'a' ? " over;" : " under;");
        }
        due("other " + other, Check.other(x, text.toString()), 0);
        return x;
    }

    private static void same() {
        due("25 both empty", two("", "").same(), true);
        due("25 out", two("aA", "bb").same(), true);
        due("25 turned", two("acd", "dca").same(), true);
        due("25 kin", two("ab", "ba").same(), false);
        due("25 sign", two("a", "A").same(), false);
        due("25 slip", two("b", "B").same(), true);
        due("25 war", two("ddd", "D").same(), true);
        due("25 more", two("a", "aa").same(), false);
        due("25 not nothing", two("", "c").same(), false);
    }

    private static void pass() {
        due("26 both empty", two("", "").pass(), true);
        due("26 one empty", two("ab", "").pass(), true);
        due("26 kin", two("a", "b").pass(), false);
        due("26 not kin", two("ac", "dd").pass(), true);
        due("26 of one folk", two("aa", "A").pass(), true);
        due("26 the same", two("abc", "abc").pass(), true);
        due("26 its undoing", two("abc", "CBA").pass(), true);
        due("26 twice it", two("ab", "abab").pass(), true);
        due("26 other", two("ab", "ba").pass(), false);
        due("26 long", two("abababababababababababab", "babababababababababababa").pass(), false);
        due("26 long passes", two("ab".repeat(12), "ab".repeat(11)).pass(), true);
    }

    private static void ring() {
        due("27 both empty", two("", "").ring(), 1);
        due("27 turned", two("ab", "ba").ring(), 1);
        due("27 held between", two("abA", "b").ring(), 1);
        due("27 more", two("aab", "aba").ring(), 1);
        due("27 other sums", two("ab", "aab").ring(), 0);
        due("27 same sums", two("aabab", "aaabb").ring(), 0);
        due("27 by free ones", two("acb", "bca").ring(), 1);
        due("27 sign", two("a", "A").ring(), 0);
        due("27 not nothing", two("a", "").ring(), 0);
        due("27 ten", two("ababababab", "bababababa").ring(), 1);
        due("27 eleven in the line", two("abababababa", "a").ring(), -1);
        due("27 eleven in other", two("a", "abababababa").ring(), -1);
        due("27 by the form", two("abababababa" + "AbAbAbAbAbA", "").ring(), 1);
        due("27 parties apart", two("abddcbC", "badbd").ring(), 0);
        due("27 parties", two("adbd", "dbad").ring(), 1);
        String pairs = "folk a bend;folk b slip;folk c hitch;folk d war;kin a b;kin c d;";
        YearKnot x = told(pairs, "abcd");
        Check.other(x, "a over;b over;d over;c over;");
        due("27 each party turns by itself", x.ring(), 1);
        YearKnot y = told(pairs, "aabcdcdd");
        Check.other(y, "d over;b over;d over;a over;c over;d over;a over;c over;");
        due("27 two parties turned", y.ring(), 1);
        Check.other(y, "d over;b over;d over;a over;c over;c over;a over;d over;");
        due("27 two parties, one another one", y.ring(), 0);
    }

    private static void rests() {
        YearKnot x = new YearKnot();
        due("28 how many", x.rests(4, 9, 1, -1), 5);
        int[] rests = {4, 13, 22, 31, 40};
        for (int i = 0; i < rests.length; i++) {
            due("28 rest " + i, x.rests(4, 9, 1, i), rests[i]);
        }
        CHECK.dueThrow("28 none such", () -> x.rests(4, 9, 1, 5));
        due("28 all", x.rests(0, 9, 0, -1), 36);
        due("28 the last", x.rests(0, 9, 0, 35), 55);
        due("28 nothing to get", x.rests(10, 0, 9, -1), 1);
        due("28 nobody gives", x.rests(10, 0, 9, 0), 0);
        due("28 both give all or nothing", x.rests(10, 9, 1, -1), 2);
        due("28 both give all", x.rests(10, 9, 1, 1), 55);
        int[][] wrong = {{-1, 0, 0, -1}, {11, 0, 0, -1}, {0, -1, 0, -1}, {0, 10, 0, -1}, {0, 0, -1, -1},
            {0, 0, 10, -1}, {0, 0, 0, -2}, {0, 0, 0, 36}, {0, 0, 0, Integer.MAX_VALUE}, {0, 0, 0, Integer.MIN_VALUE},
            {Integer.MAX_VALUE, 0, 0, 0}, {0, Integer.MIN_VALUE, 0, 0}, {0, 0, Integer.MAX_VALUE, 0}};
        for (int[] w : wrong) {
            CHECK.dueThrow("28 wrong", () -> x.rests(w[0], w[1], w[2], w[3]));
        }
    }

    private static void centuries() {
        YearKnot x = new YearKnot();
        due("29 no folk", x.centuries(0, 40, 0) + " " + x.centuries(0, 40, 1) + " " + x.centuries(0, 40, 2), "40 0 0");
        Check.net(x, "folk a slip;");
        due("29 a slip", x.centuries(7, 5, 0) + " " + x.centuries(7, 5, 1), "5 0");
        Check.net(x, "folk a slip;line 3;");
        due("29 three slips", x.centuries(7, 5, 0) + " " + x.centuries(7, 5, 1) + " " + x.centuries(7, 5, 2), "0 5 1");
        Check.net(x, "folk a bend;");
        // g goes 1, 1103527590, 377401575, .. : the second draw of each two says over or under
        int left = 0;
        long g = 1;
        for (int n = 0; n < 8; n++) {
            g = (g * 1103515245L + 12345L) % 2147483648L;
            g = (g * 1103515245L + 12345L) % 2147483648L;
            left += g / 65536 % 2 == 0 ? 1 : -1;
        }
        due("29 a bend", x.centuries(1, 1, 1), Math.abs(left));
        due("29 edges", x.centuries(9999, 1, 2) >= 0 && x.centuries(0, 40, 2) >= 0, true);
        int[][] wrong = {{-1, 1, 0}, {10000, 1, 0}, {0, 0, 0}, {0, 41, 0}, {0, 1, -1}, {0, 1, 3},
            {Integer.MIN_VALUE, 1, 0}, {0, Integer.MAX_VALUE, 0}, {0, 1, Integer.MAX_VALUE}};
        for (int[] w : wrong) {
            due("29 wrong", x.centuries(w[0], w[1], w[2]), -1);
        }
        due("29 the line is not touched", x.count(5), 0);
    }

    private static void mark() {
        YearKnot x = four("ad");
        Check.year(x, "a over;pull;");
        Check.other(x, "b over;");
        x.ahead(1, 0);
        due("30 laid", x.mark(3, false), true);
        x.tie(1, true);
        x.cut(0);
        Check.year(x, "");
        Check.other(x, "a over;a over;");
        due("30 back", x.mark(3, true), true);
        due("30 line", Check.line(x), "ad");
        due("30 year, other, ahead", x.count(7) + " " + x.count(8) + " " + x.count(9), "2 1 1");
        due("30 orders", x.orders(), 1);
        due("30 nothing can be undone", x.undo(), false);
        x.cut(0);
        due("30 back again", x.mark(3, true), true);
        due("30 as it was", x.count(5), 2);
        due("30 laid anew", x.mark(0, false), true);
        due("30 nothing there", x.mark(1, true), false);
        for (int w : WRONG) {
            due("30 wrong", x.mark(w, false), false);
            due("30 wrong", x.mark(w, true), false);
        }
        due("30 no mark 4", x.mark(4, false), false);
        Check.net(x, "");
        due("30 gone with the net", x.mark(3, true), false);
        YearKnot y = four("a");
        y.mark(0, false);
        due("30 laying keeps what can be undone", y.count(10), 1);
    }

    private static void count() {
        YearKnot x = told("folk a bend;folk b war;kin a b;line 9;rope 77;takes 3;", "aAb");
        Check.year(x, "pull;pull;");
        Check.other(x, "a over;");
        x.ahead(0, 2);
        x.feed(0x41L, 0, 0);
        int[] counts = {2, 1, 9, 77, 9, 3, 1, 2, 1, 1, 3, 1};
        for (int i = 0; i < counts.length; i++) {
            due("31 count " + i, x.count(i), counts[i]);
        }
        due("31 what 12", x.count(12), -1);
        for (int w : WRONG) {
            due("31 wrong", x.count(w), -1);
        }
    }
}
