/**
 * What is tied by hand and judged, KNOT and FORM, MARKS and counts ("==== 2.", promises 7 to 14, 30 and
 * 31): each sentence of the document that names a boundary case, quoted, with a test of its own.
 */
public final class TyingEdgesTest {
    private static final String[] KINDS = {"bend", "slip", "hitch", "war"};
    private static final int[] ROUNDS = {0, 2, 3, 4};

    private static final Check CHECK = new Check();

    public static void main(String[] args) {
        fewerThanLine();
        noMoreThanRope();
        takesFrom0To99();
        withoutTakes();
        factsOfATie();
        fromTheLeft();
        oneOrZero();
        intsWrap();
        usedByPlaces();
        ropeHoldsTiesAlone();
        tieOfOthers();
        cutMovesUp();
        cutOfOthers();
        countForZero();
        countBesideOneAnother();
        kinArePairsOnly();
        fewestTies();
        lesserFolkFirst();
        overAheadOfUnder();
        pullThatChangesNothing();
        pullToAnotherRow();
        undoneOneByOne();
        theLast16();
        whatIsNotKept();
        judgedOfNoYear();
        judgedFirstThatCantBe();
        judgedLeftOut();
        judgedComesOut();
        judgedAtLast();
        judgedOfOthers();
        atAndForm();
        aheadGoes();
        aheadStays();
        marksHold();
        eachMarkItsAhead();
        marksFrom0To3();
        noUndoBehindAMark();
        nothingOnAMark();
        countOfEach();
        countOfOthers();
        lookingChangesNothing();
        CHECK.end();
    }

    private static void due(String what, Object got, Object want) {
        CHECK.due(what, got, want);
    }

    private static YearKnot tied(String net, String row) {
        return Told.line(CHECK, net, row);
    }

    private static YearKnot four(String row) {
        return Told.four(CHECK, row);
    }

    // TIE: "if there are fewer than line"
    private static void fewerThanLine() {
        for (int line = 1; line <= 24; line++) {
            YearKnot x = Told.net(CHECK, "folk a bend;line " + line + ";");
            for (int ties = 1; ties <= line; ties++) {
                due("tie " + ties + " of line " + line, x.tie(0, ties % 2 == 0), ties);
            }
            due("one more than line " + line, x.tie(0, true) + " " + x.count(5), "-1 " + line);
            x.cut(0);
            due("again when one is cut", x.tie(0, true), line);
        }
        YearKnot x = tied("folk a bend;", "a".repeat(24));
        due("24 without line", x.tie(0, false), -1);
    }

    // TIE: "USED with it is no more than rope"
    private static void noMoreThanRope() {
        YearKnot x = tied("folk a bend;folk b war;rope 10;", "bb");
        due("USED", x.count(4), 8);
        due("12 of 10", x.tie(1, true), -1);
        due("9 of 10", x.tie(0, true), 3);
        due("10 of 10", x.tie(0, true), 4);
        due("11 of 10", x.tie(0, true) + " " + x.tie(1, false), "-1 -1");
        due("USED", x.count(4), 10);
        YearKnot none = Told.net(CHECK, "folk a bend;rope 0;");
        due("no rope", none.tie(0, true) + " " + none.count(5), "-1 0");
        YearKnot nothing = tied("folk a bend;rope 0;takes 0;", "aA");
        due("what takes nothing", nothing.count(4), 0);
        YearKnot most = tied("folk a bend;takes 50;", "aaaa");
        due("201 and more of 200", most.tie(0, true) + " " + most.count(4), "-1 200");
        YearKnot long999 = tied("folk a bend;takes 111;rope 990;", "aaaaaaaaaa");
        due("990 of 990", long999.count(4) + " " + long999.tie(0, true), "990 -1");
    }

    private static int usedBy(String takes) {
        YearKnot x = tied("folk a slip;takes " + takes + ";", "a");
        return x.count(4);
    }

    // USED: "the E of takes (0 to 99)"
    private static void takesFrom0To99() {
        due("98", usedBy("98"), 98);
        due("99", usedBy("99"), 99);
        due("100", usedBy("100"), 99);
        due("9999", usedBy("9999"), 99);
        due("0", usedBy("0"), 0);
        due("-1", usedBy("0-1"), 0);
        due("-9999", usedBy("0-9999"), 0);
        YearKnot x = tied("folk a bend;rope 98;", "a");
        due("net", Check.net(x, "folk a bend;rope 98;takes 100;"), 0);
        due("99 of 98", x.tie(0, true), -1);
        YearKnot mixed = tied("folk a bend;takes place*200-100;", "aaa");
        due("each tie's for itself", mixed.count(4), 0 + 99 + 99);
    }

    // "Without takes: 1 + sort."
    private static void withoutTakes() {
        for (int kind = 0; kind < 4; kind++) {
            YearKnot x = tied("folk a " + KINDS[kind] + ";", "aAa");
            due("of a " + KINDS[kind], x.count(4), 3 * (1 + kind));
        }
    }

    // "Facts: place (of the tie, from 0), sort (..), kins (..), below (1 if it is under, else 0)"
    private static void factsOfATie() {
        due("place", tied("folk a bend;takes place;", "aaaa").count(4), 0 + 1 + 2 + 3);
        due("place 23", tied("folk a bend;takes (place=23)*7;", "a".repeat(24)).count(4), 7);
        due("below", tied("folk a bend;takes below;", "aAAaA").count(4), 3);
        for (int kind = 0; kind < 4; kind++) {
            due("sort", tied("folk a " + KINDS[kind] + ";takes sort+5;", "a").count(4), kind + 5);
        }
        String net = Told.SIX_FREE + "kin a b;kin a c;kin a d;kin a e;kin a f;kin b c;takes kins;";
        String[] rows = {"a", "b", "c", "d", "e", "f"};
        int[] kins = {5, 2, 2, 1, 1, 1};
        for (int f = 0; f < 6; f++) {
            due("kins of " + rows[f], tied(net, rows[f]).count(4), kins[f]);
        }
        due("no kin", tied("folk a bend;takes kins+3;", "a").count(4), 3);
    }

    // E: "from the left"
    private static void fromTheLeft() {
        due("9-3-2", usedBy("9-3-2"), 4);
        due("9-3+2", usedBy("9-3+2"), 8);
        due("1 or 0 and 0", usedBy("1 or 0 and 0"), 0);
        due("0 and 0 or 1", usedBy("0 and 0 or 1"), 1);
        due("1 or 1 and 0", usedBy("1 or 1 and 0"), 0);
        due("1 or (1 and 0)", usedBy("1 or (1 and 0)"), 1);
        due("products first", usedBy("2+3*4-1*5"), 9);
        due("sums ahead of tests", usedBy("1+1<3-0 and 2*2=5-1"), 1);
        due("tests ahead of and", usedBy("5 and 3<4"), 1);
        due("not ahead of products", usedBy("not 0*7"), 7);
        due("not ahead of sums", usedBy("not 5+4"), 4);
        due("not not", usedBy("not not 5"), 1);
        due("brackets", usedBy("(2+3)*(4-1)"), 15);
        due("not of brackets", usedBy("not(1<0)*6"), 6);
        due("and in brackets", usedBy("(1 and 0)+5"), 5);
        due("or in brackets", usedBy("(0 or 1)*3+2"), 5);
        due("and, or in brackets", usedBy("((1 and 0)or 0)+(1 and(0 or 1))*7"), 7);
        due("tests in brackets", usedBy("(1<2)*4+(2=3)*9+(3<(1 or 0))"), 4);
        due("sums in brackets", usedBy("9-(3-2)-(1+1)"), 6);
        due("not of sums in brackets", usedBy("not(2-2)*9+not(2-1)*50"), 9);
    }

    // "Of not, and, or, < and = comes 1 or 0; what is not 0 is so"
    private static void oneOrZero() {
        String[][] laws = {{"not 0", "1"}, {"not 1", "0"}, {"not 2", "0"}, {"not (0-1)", "0"}, {"2 and 4", "1"},
            {"0 and 4", "0"}, {"4 and 0", "0"}, {"0 and 0", "0"}, {"2 or 4", "1"}, {"0 or 4", "1"}, {"4 or 0", "1"},
            {"0 or 0", "0"}, {"1<2", "1"}, {"2<2", "0"}, {"3<2", "0"}, {"1=2", "0"}, {"2=2", "1"}, {"3=2", "0"},
            {"0-1<0", "1"}, {"0<0-1", "0"}, {"0-5 and 1", "1"}, {"0-5 or 0", "1"}, {"(2<3)+(3<4)+(4=4)", "3"}};
        for (String[] law : laws) {
            due(law[0], usedBy(law[0]), law[1]);
        }
    }

    // "ints wrap"
    private static void intsWrap() {
        // 9999 * 9999 * 100 is 9,998,000,100, and 1,408,065,508 in an int
        due("over an int", usedBy("9999*9999*100-1408*1000*1000-9999*6=5514"), 1);
        due("above 0", usedBy("0<9999*9999*100"), 1);
        // 9999 * 9999 * 9999 is below 0 in an int
        due("below 0", usedBy("9999*9999*9999<0"), 1);
        // 4096 * 4096 * 256 is 2^32
        due("2^32", usedBy("4096*4096*256"), 0);
        due("2^32 and 5", usedBy("4096*4096*256+5"), 5);
        due("2^31", usedBy("4096*4096*128<0"), 1);
        due("2^31 less 1", usedBy("0<4096*4096*128-1"), 1);
        due("2^31 is what is against it", usedBy("4096*4096*128=0-4096*4096*128"), 1);
    }

    // USED: "of all ties, by their places"
    private static void usedByPlaces() {
        YearKnot x = tied("folk a bend;takes place*10;", "aaaa");
        due("0, 10, 20, 30", x.count(4), 60);
        x.cut(1);
        due("those behind it take less", x.count(4), 30);
        x.undo();
        due("undone", x.count(4), 60);
        YearKnot y = tied("folk a bend;folk b war;takes (sort+1)*(5-place);", "ba");
        due("as tied", y.count(4), 4 * 5 + 4);
        y.pull();
        due("as pulled", Check.line(y) + " " + y.count(4), "ab 21");
    }

    // TIE alone is held to rope; USED may be more by a CUT, a PULL
    private static void ropeHoldsTiesAlone() {
        String net = "folk a bend;folk b bend;rope 5;takes below*(place<1)*9;";
        YearKnot x = tied(net, "aA");
        due("cut", x.cut(0) + " " + x.count(4), "1 9");
        due("no tie, though it takes nothing", x.tie(0, true), -1);
        YearKnot y = tied(net, "bA");
        due("pulled", y.pull() + " " + Check.line(y) + " " + y.count(4), "2 Ab 9");
        due("no tie", y.tie(1, true), -1);
        due("undone", y.undo() + " " + y.tie(1, true), "true 3");
    }

    // tie: "how many there are then; NONE: others, it can't be"
    private static void tieOfOthers() {
        YearKnot x = four("d");
        due("at the end", x.tie(0, true) + " " + Check.line(x), "2 da");
        due("under", x.tie(3, false) + " " + Check.line(x), "3 daD");
        due("a fifth FOLK", x.tie(4, true) + " " + x.tie(5, true) + " " + x.tie(6, false), "-1 -1 -1");
        for (int wrong : Told.WRONG) {
            due("folk " + wrong, x.tie(wrong, true) + " " + x.tie(wrong, false), "-1 -1");
        }
        due("nothing came of them", Check.line(x) + " " + x.count(10), "daD 3");
    }

    // CUT: "the tie at a place goes, those behind it move up"; "how many are left"
    private static void cutMovesUp() {
        YearKnot x = four("abcda");
        due("the first", x.cut(0) + " " + Check.line(x), "4 bcda");
        due("in the middle", x.cut(2) + " " + Check.line(x), "3 bca");
        due("the last", x.cut(2) + " " + Check.line(x), "2 bc");
        due("all but one", x.cut(1) + " " + Check.line(x), "1 b");
        due("all", x.cut(0) + " " + Check.line(x), "0 ");
        YearKnot y = tied("folk a bend;", "A".repeat(23) + "a");
        due("the 24th", y.cut(23) + " " + Check.line(y), "23 " + "A".repeat(23));
    }

    // cut: "NONE: others"
    private static void cutOfOthers() {
        YearKnot x = four("abc");
        due("behind the last", x.cut(3) + " " + x.cut(4) + " " + x.cut(23) + " " + x.cut(24), "-1 -1 -1 -1");
        for (int wrong : Told.WRONG) {
            due("place " + wrong, x.cut(wrong), -1);
        }
        due("nothing came of them", Check.line(x) + " " + x.count(10), "abc 3");
        due("of a line without ties", four("").cut(0), -1);
    }

    private static boolean counts(int kind, int sum) {
        return ROUNDS[kind] == 0 ? sum == 0 : sum % ROUNDS[kind] == 0;
    }

    // "over 1, under -1; a slip's count for 0 by twos (2, -2, 4 ..), a hitch's by threes, a war's by fours;
    // a bend's never but for 0 itself"
    private static void countForZero() {
        for (int kind = 0; kind < 4; kind++) {
            String net = "folk a " + KINDS[kind] + ";takes 1;";
            for (int over = 0; over <= 12; over++) {
                for (int under = 0; under <= 12; under++) {
                    YearKnot x = tied(net, "a".repeat(over) + "A".repeat(under));
                    due(over + " over and " + under + " under of a " + KINDS[kind], x.out(), counts(kind,
                            over - under));
                }
            }
            due("24 over", tied(net, "a".repeat(24)).out(), kind > 0);
            due("24 under", tied(net, "A".repeat(24)).out(), kind > 0);
            due("over and under by turns", tied(net, "aA".repeat(12)).out(), true);
        }
    }

    // "Ties right beside one another may change places, if they are by two FOLK who are not kin."
    private static void countBesideOneAnother() {
        due("beside", four("baA").count(6), 1);
        due("kin between", four("abA").out(), false);
        due("one who is no kin between", Check.form(four("acA")), "c");
        due("kin of the one between alone", Check.form(four("acbAC")), "acbAC");
        due("around both", Check.form(four("adAbdB")), "dd");
        due("when those between are gone", four("abBA").out(), true);
        due("when a slip between is gone", four("abbA").out(), true);
        due("when three of a hitch between are gone", four("bcccb").out(), true);
        due("when two of a hitch between are not", four("bccb").out(), false);
        due("parts of a war", four("adaddAAd").out(), true);
    }

    // "two FOLK who are not kin": those who have kin in common may pass one another
    private static void kinArePairsOnly() {
        due("a and c", Check.form(four("ca")), "ac");
        due("b and a", Check.form(four("ba")), "ba");
        due("b and c", Check.form(four("cb")), "cb");
        due("d and all", Check.form(four("dcba")), "cbad");
        due("a and c through b they can't", Check.form(four("cba")), "cba");
        due("no pass through kin of one's own", Check.form(tied("folk a bend;folk b bend;kin a b;", "baba")), "baba");
    }

    // FORM: "of all lines that are one KNOT with it those of the fewest ties"
    private static void fewestTies() {
        String[][] forms = {{"bbb", "b"}, {"BBB", "b"}, {"cc", "C"}, {"cccc", "c"}, {"CC", "c"}, {"CCCC", "C"},
            {"ddd", "D"}, {"DDD", "d"}, {"ddddd", "d"}, {"DDDDD", "D"}, {"dddddd", "dd"}, {"aaaA", "aa"},
            {"aAAA", "AA"}, {"cCcc", "C"}, {"bccbccb", "bCbCb"}, {"", ""}};
        for (String[] f : forms) {
            YearKnot x = four(f[0]);
            due("FORM of " + f[0], Check.form(x), f[1]);
            due("ties of it", x.count(6), f[1].length());
        }
        due("24 ties", four("a".repeat(24)).count(6), 24);
    }

    // "the first (a row by places: the lesser FOLK first, ..)"
    private static void lesserFolkFirst() {
        due("two", Check.form(four("dA")), "Ad");
        due("the lesser FOLK, though under", Check.form(tied("folk a bend;folk b bend;", "bA")), "Ab");
        due("each as far ahead as can be", Check.form(four("bdca")), "bacd");
        due("by the first place, then the next", Check.form(tied(Told.SIX_FREE + "kin a f;", "fedcba")), "bcdefa");
        due("by the first place, then the next", Check.form(tied(Told.SIX_FREE + "kin a b;kin c d;", "dcbafe")),
                "badcef");
        YearKnot x = Told.net(CHECK, "folk z bend;folk y bend;");
        x.tie(1, true);
        x.tie(0, true);
        due("as told, not by NAMES", x.form(0) + " " + x.form(1), "0 2");
    }

    // "the first (.. over ahead of under)"
    private static void overAheadOfUnder() {
        due("a slip under", Check.form(four("B")), "b");
        due("a war, two under", Check.form(four("DD")), "dd");
        due("a war, two over", Check.form(four("dd")), "dd");
        due("a bend, two under", Check.form(four("AA")), "AA");
        due("a hitch, one under", Check.form(four("C")), "C");
        due("a hitch, two over", Check.form(four("cc")), "C");
        due("a war, three over", Check.form(four("ddd")), "D");
    }

    // "if that is another row"; pull: "NONE: it changes nothing"
    private static void pullThatChangesNothing() {
        String[] rows = {"", "a", "A", "b", "C", "dd", "abA", "ad", "cbac", "aaaa"};
        for (String row : rows) {
            YearKnot x = four(row);
            int undone = x.count(10);
            due("PULL of " + row, x.pull() + " " + Check.line(x) + " " + x.count(10), "-1 " + row + " " + undone);
        }
    }

    // "the LINE becomes its FORM"; pull: "how many are left"
    private static void pullToAnotherRow() {
        String[][] rows = {{"aA", ""}, {"da", "ad"}, {"B", "b"}, {"DD", "dd"}, {"acA", "c"}, {"ccccc", "C"},
            {"abddddBA", ""}};
        for (String[] r : rows) {
            YearKnot x = four(r[0]);
            int undone = x.count(10);
            due("PULL of " + r[0], x.pull() + " " + Check.line(x), r[1].length() + " " + r[1]);
            due("it can be undone", x.count(10), undone + 1);
            due("no second time", x.pull(), -1);
        }
    }

    // UNDO: "TIES, CUTS, PULLS, .. one by one"; "false: nothing can be"
    private static void undoneOneByOne() {
        YearKnot x = four("bda");
        x.pull();
        x.cut(1);
        x.tie(2, false);
        due("as it is", Check.line(x) + " " + x.count(10), "bdC 6");
        String[] rows = {"bd", "bad", "bda", "bd", "b", ""};
        for (int i = 0; i < rows.length; i++) {
            due("undone", x.undo() + " " + Check.line(x) + " " + x.count(10), "true " + rows[i] + " " + (5 - i));
        }
        due("nothing more", x.undo() + " " + Check.line(x), "false ");
        x.tie(0, true);
        due("anew", x.count(10) + " " + x.undo() + " " + x.undo(), "1 true false");
        YearKnot y = four("ab");
        y.undo();
        y.tie(3, true);
        due("what was undone is gone", Check.line(y) + " " + y.count(10), "ad 2");
    }

    // UNDO: "the last 16"
    private static void theLast16() {
        for (int ties = 14; ties <= 24; ties++) {
            YearKnot x = tied("folk a bend;", "a".repeat(ties));
            int kept = Math.min(ties, 16);
            due("of " + ties, x.count(10), kept);
            for (int left = kept - 1; left >= 0; left--) {
                due("undone", x.undo() + " " + x.count(5), "true " + (ties - kept + left));
            }
            due("no more of " + ties, x.undo() + " " + x.count(5), "false " + (ties - kept));
        }
        YearKnot y = tied("folk a bend;", "a".repeat(20));
        for (int i = 0; i < 5; i++) {
            y.undo();
        }
        Check.ties(y, "AAAAAAA");
        for (int i = 0; i < 16; i++) {
            due("round and round", y.undo(), true);
        }
        due("no more", y.undo() + " " + Check.line(y), "false aaaaaa");
    }

    // UNDO: "TIES, CUTS, PULLS" alone, and none that can't be
    private static void whatIsNotKept() {
        YearKnot x = tied("folk a bend;line 2;", "aa");
        x.tie(0, true);
        x.cut(2);
        x.pull();
        x.ahead(0, 1);
        x.mark(0, false);
        Check.year(x, "a over;");
        Check.other(x, "a over;");
        Check.net(x, "A");
        x.mark(1, true);
        due("two ties", x.count(10), 2);
        due("undone", x.undo() + " " + x.undo() + " " + x.undo(), "true true false");
    }

    private static YearKnot judged(String net, String year) {
        YearKnot x = Told.net(CHECK, net);
        due("year " + year, Check.year(x, year), 0);
        return x;
    }

    private static void dueJudged(String net, String year, String want) {
        YearKnot x = judged(net, year);
        due("JUDGED " + year, x.judged(0) + " " + x.judged(1) + " " + x.judged(2), want);
    }

    // JUDGED: "lines (NONE: none)"
    private static void judgedOfNoYear() {
        dueJudged(Told.FOUR, "", "-1 -1 0");
        dueJudged(Told.FOUR, "a over;b over;c under;", "-1 -1 3");
    }

    // "the first line (from 0) that can't be (a tie as by hand, a cut at a place without a tie, a pull by which
    // nothing is another one)"
    private static void judgedFirstThatCantBe() {
        dueJudged(Told.FOUR, "pull;", "0 -1 0");
        dueJudged(Told.FOUR, "cut 0;", "0 -1 0");
        dueJudged(Told.FOUR, "a over;pull;cut 0;cut 0;", "1 -1 0");
        dueJudged(Told.FOUR, "a over;cut 1;", "1 -1 1");
        dueJudged(Told.FOUR, "a over;cut 0;", "-1 -1 0");
        dueJudged(Told.FOUR, "a over;b over;cut 2;", "2 -1 2");
        dueJudged(Told.FOUR, "a over;b over;cut 1;", "-1 -1 1");
        dueJudged(Told.FOUR, "d over;a over;pull;pull;", "3 -1 2");
        dueJudged(Told.FOUR, "b under;pull;", "-1 -1 1");
        dueJudged("folk a bend;line 2;", "a over;a over;a over;", "2 -1 2");
        dueJudged("folk a bend;rope 2;", "a over;a over;a over;", "2 -1 2");
        dueJudged("folk a bend;rope 0;", "a over;a over;", "0 -1 0");
        dueJudged("folk a bend;takes place*30;", "a over;".repeat(6), "4 -1 4");
        dueJudged(Told.FOUR, "a over;".repeat(25) + "cut 23;cut 23;", "24 -1 23");
        dueJudged(Told.FOUR, "a over;".repeat(39) + "cut 23;", "24 -1 23");
    }

    // "a line that can't be is left out"
    private static void judgedLeftOut() {
        dueJudged("folk a bend;folk d war;rope 4;", "a over;d over;a over;a over;a over;a over;", "1 -1 4");
        dueJudged("folk a bend;line 2;", "a over;a over;a under;cut 0;a under;", "2 4 0");
        dueJudged(Told.FOUR, "cut 5;pull;a over;", "0 -1 1");
    }

    // "the first one behind which it has a tie and COMES OUT"
    private static void judgedComesOut() {
        dueJudged(Told.FOUR, "b over;b over;b over;b over;", "-1 1 0");
        dueJudged(Told.FOUR, "a over;cut 0;pull;b under;b over;", "2 4 0");
        dueJudged(Told.FOUR, "a over;a under;pull;", "-1 1 0");
        dueJudged(Told.FOUR, "a over;b over;a under;cut 1;", "-1 3 0");
        dueJudged(Told.FOUR, "a over;b over;a under;pull;", "3 -1 3");
        dueJudged(Told.FOUR, "pull;".repeat(38) + "b over;b over;", "0 39 0");
    }

    // "how many ties its FORM has at last"
    private static void judgedAtLast() {
        dueJudged(Told.FOUR, "d over;d over;d over;", "-1 -1 1");
        dueJudged(Told.FOUR, "a over;a over;b over;a under;", "-1 -1 4");
        YearKnot x = four("abab");
        Check.year(x, "c over;");
        due("from a line without ties", x.judged(2), 1);
        due("the LINE stays", Check.line(x) + " " + x.count(10), "abab 4");
    }

    // judged: "-2: others"
    private static void judgedOfOthers() {
        YearKnot x = judged(Told.FOUR, "a over;");
        due("3", x.judged(3), -2);
        for (int wrong : Told.WRONG) {
            due("what " + wrong, x.judged(wrong), -2);
        }
    }

    // at, form: "as 2 * FOLK + 1 if it is under; NONE: others"
    private static void atAndForm() {
        YearKnot x = tied(Told.SIX_FREE, "fEdCbA");
        int[] line = {10, 9, 6, 5, 2, 1};
        int[] form = {1, 2, 5, 6, 9, 10};
        for (int i = 0; i < 6; i++) {
            due("at " + i, x.at(i), line[i]);
            due("form " + i, x.form(i), form[i]);
        }
        due("behind the last", x.at(6) + " " + x.form(6), "-1 -1");
        for (int wrong : Told.WRONG) {
            due("place " + wrong, x.at(wrong) + " " + x.form(wrong), "-1 -1");
        }
        YearKnot y = four("acA");
        due("behind the FORM's last", y.at(1) + " " + y.form(0) + " " + y.form(1), "4 4 -1");
        YearKnot full = tied("folk a bend;", "a".repeat(24));
        due("the 24th", full.at(23) + " " + full.at(24) + " " + full.form(23) + " " + full.form(24), "0 -1 0 -1");
    }

    // "What is AHEAD goes when a tie is CUT, PULLED, undone by hand."
    private static void aheadGoes() {
        YearKnot cut = four("dad");
        cut.ahead(0, 1);
        cut.ahead(1, 2);
        due("cut", cut.count(9) + " " + cut.cut(2) + " " + cut.count(9), "2 2 0");
        YearKnot pulled = four("da");
        pulled.ahead(1, 0);
        due("pulled", pulled.count(9) + " " + pulled.pull() + " " + pulled.count(9), "1 2 0");
        YearKnot undone = four("dad");
        undone.ahead(0, 1);
        due("a tie undone", undone.count(9) + " " + undone.undo() + " " + undone.count(9), "1 true 0");
        pulled.ahead(0, 1);
        due("a pull undone", pulled.undo() + " " + pulled.count(9), "true 0");
        cut.ahead(0, 1);
        due("a cut undone", cut.undo() + " " + cut.count(9), "true 0");
        due("it does not come back", cut.orders(), 3);
    }

    // AHEAD goes by nothing else: not by a TIE, nor by what can't be
    private static void aheadStays() {
        YearKnot x = four("ad");
        x.ahead(1, 0);
        due("a tie", x.tie(3, true) + " " + x.count(9), "3 1");
        due("no tie", x.tie(4, true) + " " + x.count(9), "-1 1");
        due("no cut", x.cut(3) + " " + x.cut(-1) + " " + x.count(9), "-1 -1 1");
        due("no pull", x.pull() + " " + x.count(9), "-1 1");
        due("no mark", x.mark(0, true) + " " + x.count(9), "false 1");
        due("a mark", x.mark(0, false) + " " + x.count(9), "true 1");
        due("year and other", Check.year(x, "a over;") + " " + Check.other(x, "") + " " + x.count(9), "0 0 1");
        due("a FAULT", Check.net(x, "A") + " " + x.count(9), "1 1");
        YearKnot y = Told.net(CHECK, Told.FOUR);
        due("nothing to undo", y.undo() + " " + y.count(9), "false 0");
        YearKnot back = four("ad");
        back.mark(0, false);
        back.mark(0, true);
        back.ahead(0, 1);
        due("nothing to undo behind a MARK", back.undo() + " " + back.count(9), "false 1");
    }

    // "MARKS 0 to 3 hold the LINE, the YEAR, OTHER, what is AHEAD"
    private static void marksHold() {
        YearKnot x = four("ad");
        Check.year(x, "a over;b over;");
        Check.other(x, "c over;c over;c under;");
        x.ahead(1, 0);
        due("laid", x.mark(2, false), true);
        due("laying it changes nothing", Told.counts(x), "4 2 24 200 5 2 2 2 3 1 2");
        Check.ties(x, "bb");
        x.ahead(2, 3);
        Check.year(x, "pull;");
        Check.other(x, "");
        x.feed('x', 0, 0);
        due("gone back to", x.mark(2, true), true);
        due("as it was", Told.counts(x) + " " + Check.line(x), "4 2 24 200 5 2 2 2 3 1 0 ad");
        due("its YEAR, OTHER and AHEAD", x.judged(2) + " " + x.pass() + " " + x.orders(), "2 true 1");
        due("the TAPE is none of it", x.count(11), 1);
        x.cut(0);
        due("gone back to again", x.mark(2, true) + " " + Check.line(x) + " " + x.count(9), "true ad 1");
        x.mark(2, true);
        x.cut(1);
        x.mark(2, false);
        x.cut(0);
        due("laid anew", x.mark(2, true) + " " + Check.line(x) + " " + x.count(9), "true a 0");
    }

    // "MARKS .. hold .. what is AHEAD": each its own
    private static void eachMarkItsAhead() {
        YearKnot x = four("aad");
        x.ahead(2, 1);
        due("d ahead of the second a", x.mark(0, false) + " " + x.orders(), "true 2");
        x.cut(2);
        x.tie(3, true);
        x.ahead(1, 2);
        due("d behind it", x.mark(1, false) + " " + x.orders() + " " + x.ask(), "true 1 -1");
        due("back to the first", x.mark(0, true) + " " + x.orders() + " " + x.ask(), "true 2 2");
        due("back to the second", x.mark(1, true) + " " + x.orders() + " " + x.ask(), "true 1 -1");
    }

    // "MARKS 0 to 3"; mark: "false: none such"
    private static void marksFrom0To3() {
        YearKnot x = four("");
        for (int mark = 0; mark < 4; mark++) {
            x.tie(mark, true);
            due("laid " + mark, x.mark(mark, false), true);
        }
        String[] rows = {"a", "ab", "abc", "abcd"};
        int[] order = {2, 0, 3, 1, 1, 3};
        for (int mark : order) {
            due("back to " + mark, x.mark(mark, true) + " " + Check.line(x), "true " + rows[mark]);
        }
        due("no MARK 4", x.mark(4, false) + " " + x.mark(4, true), "false false");
        for (int wrong : Told.WRONG) {
            due("no MARK " + wrong, x.mark(wrong, false) + " " + x.mark(wrong, true), "false false");
        }
        due("nothing came of them", Check.line(x), "abcd");
    }

    // "(nothing can be undone when one is gone back to)"
    private static void noUndoBehindAMark() {
        YearKnot x = four("ab");
        x.mark(0, false);
        due("laying it leaves what can be undone", x.count(10), 2);
        x.tie(0, true);
        due("back", x.mark(0, true) + " " + x.count(10) + " " + x.undo() + " " + Check.line(x), "true 0 false ab");
        x.tie(3, true);
        due("from then on", x.count(10) + " " + x.undo() + " " + x.undo() + " " + Check.line(x), "1 true false ab");
    }

    // mark: "false: .. nothing is on it (back)"
    private static void nothingOnAMark() {
        YearKnot x = four("ab");
        x.mark(1, false);
        due("nothing on the others", x.mark(0, true) + " " + x.mark(2, true) + " " + x.mark(3, true),
                "false false false");
        due("all stays", Check.line(x) + " " + x.count(10), "ab 2");
        YearKnot empty = Told.net(CHECK, Told.FOUR);
        empty.mark(3, false);
        empty.tie(0, true);
        due("a line without ties is on it", empty.mark(3, true) + " " + empty.count(5), "true 0");
    }

    // count: "What 0: FOLK, .. 11: signs on the TAPE."
    private static void countOfEach() {
        YearKnot x = tied("folk a bend;folk b war;folk c slip;kin a b;line 9;rope 77;takes 3;", "aAbcc");
        Check.year(x, "pull;pull;");
        Check.other(x, "a over;c under;b over;b over;");
        x.ahead(0, 2);
        x.ahead(3, 2);
        x.cut(4);
        x.ahead(3, 2);
        x.feed(Check.eight("abcdefg", 0), 0, 0);
        int[] counts = {3, 1, 9, 77, 12, 4, 2, 2, 4, 1, 6, 7};
        for (int what = 0; what < counts.length; what++) {
            due("what " + what, x.count(what), counts[what]);
        }
    }

    // count: "NONE for another what"
    private static void countOfOthers() {
        YearKnot x = four("a");
        due("what 12", x.count(12), -1);
        for (int wrong : Told.WRONG) {
            due("what " + wrong, x.count(wrong), -1);
        }
    }

    // No answer changes what is tied
    private static void lookingChangesNothing() {
        YearKnot x = four("dadbA");
        Check.year(x, "a over;pull;");
        Check.other(x, "a over;");
        x.ahead(0, 1);
        String before = Told.counts(x) + Check.line(x) + x.orders();
        for (int what = -2; what < 26; what++) {
            x.judged(what);
            x.at(what);
            x.form(what);
            x.loose(what);
            x.yet(what);
            x.folk(what, 0);
            x.folk(what, 1);
            x.centuries(what, what, what % 3);
            int asked = what;
            Check.result(() -> x.sum(asked));
            Check.result(() -> x.rests(2, 3, 1, asked));
        }
        due("answers", x.out() + " " + x.held() + " " + x.fault() + " " + x.shown(), "false 11 0 1");
        due("answers", x.cuts() + " " + x.ask() + " " + x.same() + " " + x.pass() + " " + x.ring(),
                "13 51 false false 0");
        due("all as it was", Told.counts(x) + Check.line(x) + x.orders(), before);
    }
}
