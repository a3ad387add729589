/**
 * What the LINE answers ("==== 3.", promises 14 to 29): each sentence of the document that names a
 * boundary case, quoted, with a test of its own.
 */
public final class AnswersEdgesTest {
    private static final String PAIRS = "folk a bend;folk b slip;folk c hitch;folk d war;kin a b;kin c d;";
    private static final String FREE = "folk a bend;folk b bend;takes 1;";

    private static final Check CHECK = new Check();

    public static void main(String[] args) {
        outIsOneWithNothing();
        heldByTheForm();
        faultOfThoseWithTies();
        sumOfEachKind();
        sumOfOthers();
        shownFirst();
        shownKin();
        shownNone();
        looseMost();
        looseFirst();
        looseOfOthers();
        yetFewest();
        yetFirstRow();
        yetAsideFromLineAndRope();
        yetOfOthers();
        cutsFewest();
        cutsLeastSet();
        cutsOf14();
        oneAnswerAfterAnother();
        aheadOfAnother();
        aheadEight();
        ordersByChangesAlone();
        ordersByAhead();
        ordersOf14();
        askLeastOfTheGreater();
        askFirstOfEqual();
        askNone();
        askOf14();
        sameKnot();
        passEitherWay();
        ringsAreTurned();
        ringsOfTen();
        restsAtTheEdges();
        restsOfEqualGain();
        restsLeastFirst();
        restsOfOthers();
        centuriesByDraws();
        centuriesArePulled();
        centuriesOfNoFolk();
        centuriesHeldToLineAndRope();
        centuriesAtTheEdges();
        CHECK.end();
    }

    private static void due(String what, Object got, Object want) {
        CHECK.due(what, got, want);
    }

    private static YearKnot tied(String net, String row) {
        return Told.line(CHECK, net, row);
    }

    private static YearKnot four(String row) {
        return Told.four(CHECK, row);
    }

    // "It COMES OUT if it is one with the line without ties."
    private static void outIsOneWithNothing() {
        String[] outs = {"", "aA", "Aa", "bb", "ccc", "dddd", "abBA", "acAcc", "dadAdd", "BcccB"};
        for (String row : outs) {
            due("out of " + row, four(row).out() + " " + four(row).count(6), "true 0");
        }
        String[] held = {"a", "B", "c", "cc", "D", "dd", "abA", "abAb", "ab", "bcbc", "bcbcbc", "aaAb"};
        for (String row : held) {
            due("out of " + row, four(row).out() + " " + (four(row).count(6) > 0), "false true");
        }
    }

    // "HELD: FOLK with ties in the FORM."
    private static void heldByTheForm() {
        String[] rows = {"", "a", "b", "c", "d", "aAb", "abAb", "acA", "abcd", "dcba", "ccc", "adbA"};
        int[] held = {0, 1, 2, 4, 8, 2, 3, 4, 15, 15, 0, 11};
        for (int i = 0; i < rows.length; i++) {
            due("HELD by " + rows[i], four(rows[i]).held(), held[i]);
        }
        due("HELD by the sixth", tied(Told.SIX_FREE, "aAf").held(), 32);
    }

    // "FAULT: FOLK with ties in the LINE without all of whose ties it would COME OUT."
    private static void faultOfThoseWithTies() {
        String[] rows = {"", "a", "aA", "ab", "abA", "abAb", "acA", "acAc", "aAdddd", "aAdddda", "abcCBA", "abcCBAd"};
        int[] faults = {0, 1, 1, 0, 2, 3, 4, 4, 9, 1, 7, 8};
        for (int i = 0; i < rows.length; i++) {
            due("FAULT of " + rows[i], four(rows[i]).fault(), faults[i]);
        }
        due("the sixth", tied(Told.SIX_FREE, "aAf").fault(), 32);
        due("each of two in a knot", four("abABbb").fault(), 3);
        due("the one between", four("abcBA").fault(), 4);
        due("all ties of one, not some", four("aba").fault(), 0);
    }

    // "SUM of a FOLK: .. (a slip's 0 or 1, a hitch's 0 to 2, a war's 0 to 3)"
    private static void sumOfEachKind() {
        int[] rounds = {0, 2, 3, 4};
        for (int f = 0; f < 4; f++) {
            char over = (char) ('a' + f);
            char under = (char) ('A' + f);
            for (int n = 0; n <= 9; n++) {
                int want = rounds[f] == 0 ? n : n % rounds[f];
                int against = rounds[f] == 0 ? -n : Math.floorMod(-n, rounds[f]);
                due("SUM of over ones", four(String.valueOf(over).repeat(n)).sum(f), want);
                due("SUM of under ones", four(String.valueOf(under).repeat(n)).sum(f), against);
            }
        }
        YearKnot x = four("abcdAcBdaD");
        due("of all its ties, though they are held apart", x.sum(0) + " " + x.sum(1) + " " + x.sum(2) + " " + x.sum(3),
                "1 0 2 1");
        due("24 under", tied("folk a bend;", "A".repeat(24)).sum(0), -24);
        due("without ties", four("b").sum(0), 0);
    }

    // sum: "NoSuchElementException: others."
    private static void sumOfOthers() {
        YearKnot x = four("abcd");
        CHECK.dueThrow("a fifth", () -> x.sum(4));
        CHECK.dueThrow("a sixth", () -> x.sum(5));
        for (int wrong : Told.WRONG) {
            CHECK.dueThrow("folk " + wrong, () -> x.sum(wrong));
        }
        CHECK.dueThrow("no FOLK", () -> new YearKnot().sum(0));
        due("all stays", Check.line(x), "abcd");
    }

    // SHOWN: "the first two FOLK, the lesser one first (one alone is both)"
    private static void shownFirst() {
        String[] rows = {"a", "b", "c", "d", "ab", "da", "abAb", "bcbc", "db", "dc", "aAb", "dcbBA"};
        int[] shown = {0, 1, 8, 21, 0, 0, 1, 8, 1, 8, 1, 0};
        for (int i = 0; i < rows.length; i++) {
            due("SHOWN of " + rows[i], four(rows[i]).shown(), shown[i]);
        }
        // b's two ties come out among a's, but not among c's
        due("b and c", four("bcbCccc").shown(), 8);
        due("the last alone", tied(Told.SIX_FREE, "aAf").shown(), 5 * 6 + 5);
        due("with kin that has no ties", tied(Told.SIX_FREE + "kin c f;", "f").shown(), 2 * 6 + 5);
    }

    // SHOWN: "kin if they are two"
    private static void shownKin() {
        due("a and c are no kin", four("cacc").shown(), 0);
        due("c alone, a comes out", four("cacA").shown(), 8);
        String apart = "folk a bend;folk b bend;";
        due("no kin: the one alone", tied(apart, "b").shown(), 7);
        due("kin: both", tied(apart + "kin a b;", "b").shown(), 1);
        due("no kin pass one another", tied(apart, "abAB").shown(), -1);
        due("kin don't", tied(apart + "kin a b;", "abAB").shown(), 1);
    }

    // shown: "NONE: none"
    private static void shownNone() {
        due("without ties", four("").shown(), -1);
        due("it COMES OUT", four("abBA").shown(), -1);
        due("without FOLK", new YearKnot().shown(), -1);
        String three = "folk a slip;folk b slip;folk c slip;kin a b;kin b c;kin a c;";
        YearKnot x = tied(three, "ababcbabac");
        due("three hold one another, though no two do", x.out() + " " + x.shown(), "false -1");
    }

    // LOOSE: "the most ties right behind one another in the LINE that alone COME OUT: how many (0 if none do)"
    private static void looseMost() {
        String[][] rows = {{"", "0 -1"}, {"a", "0 -1"}, {"ab", "0 -1"}, {"abA", "0 -1"}, {"aA", "2 0"}, {"abBA", "4 0"},
            {"bbaAA", "4 0"}, {"aAbddddc", "4 3"}, {"abaAbc", "4 1"}, {"cacA", "0 -1"}, {"cacAC", "4 1"},
            {"bacAC", "4 1"}, {"dddd", "4 0"}, {"ddddd", "4 0"}, {"addddA", "6 0"}, {"baAab", "2 1"}};
        for (String[] r : rows) {
            YearKnot x = four(r[0]);
            due("LOOSE of " + r[0], x.loose(0) + " " + x.loose(1), r[1]);
        }
        YearKnot all = tied("folk a bend;", "aA".repeat(12));
        due("all 24", all.loose(0) + " " + all.loose(1), "24 0");
        YearKnot last = tied("folk a bend;", "a".repeat(22) + "Aa");
        due("the last of 24", last.loose(0) + " " + last.loose(1), "2 21");
        YearKnot none = tied("folk a bend;", "a".repeat(24));
        due("none of 24", none.loose(0) + " " + none.loose(1), "0 -1");
    }

    // LOOSE: "the first place from which so many do"
    private static void looseFirst() {
        String[][] rows = {{"aAbcC", "2 0"}, {"baAcC", "4 1"}, {"baAbcC", "6 0"}, {"aAabB", "4 1"}, {"cbbabbc", "2 1"},
            {"baAcbb", "2 1"},
            {"abbAbcbbcb", "4 0"}};
        for (String[] r : rows) {
            YearKnot x = four(r[0]);
            due("LOOSE of " + r[0], x.loose(0) + " " + x.loose(1), r[1]);
        }
    }

    // loose: "-2: others"
    private static void looseOfOthers() {
        YearKnot x = four("aA");
        due("what 2", x.loose(2), -2);
        for (int wrong : Told.WRONG) {
            due("what " + wrong, x.loose(wrong), -2);
            due("what " + wrong + " without ties", four("").loose(wrong), -2);
        }
    }

    // "YET: the fewest ties behind the LINE by which it COMES OUT"; yet: "what NONE: how many"
    private static void yetFewest() {
        String[][] rows = {{"", ""}, {"aA", ""}, {"a", "A"}, {"A", "a"}, {"b", "b"}, {"B", "b"}, {"c", "C"}, {"C", "c"},
            {"cc", "c"}, {"CC", "C"}, {"d", "D"}, {"D", "d"}, {"ddd", "d"}, {"DDD", "D"}, {"abA", "abA"}, {"ab", "bA"},
            {"abc", "CbA"}, {"aaab", "bAAA"}, {"abAAb", "baabA"}};
        for (String[] r : rows) {
            YearKnot x = four(r[0]);
            due("YET of " + r[0], x.yet(-1) + " " + Check.yet(x), r[1].length() + " " + r[1]);
            Check.ties(x, Check.yet(x));
            due("then it COMES OUT", x.out(), true);
        }
    }

    // YET: "of equal ones the first row (as FORM)"
    private static void yetFirstRow() {
        String[][] rows = {{"ad", "AD"}, {"da", "AD"}, {"dd", "dd"}, {"DD", "dd"}, {"cad", "ACD"}, {"dcab", "bACD"},
            {"bad", "AbD"}, {"ca", "AC"}, {"bacd", "ACbD"}};
        for (String[] r : rows) {
            due("YET of " + r[0], Check.yet(four(r[0])), r[1]);
        }
    }

    // YET: "(line, rope aside)"
    private static void yetAsideFromLineAndRope() {
        YearKnot x = tied("folk a bend;line 2;rope 2;", "aa");
        due("beyond line and rope", x.yet(-1) + " " + Check.yet(x) + " " + x.tie(0, false), "2 AA -1");
        YearKnot full = tied("folk a bend;", "A".repeat(24));
        due("24 more", full.yet(-1) + " " + Check.yet(full), "24 " + "a".repeat(24));
        due("the last of them", full.yet(23) + " " + full.yet(24), "0 -2");
    }

    // yet: "i: the i-th as 2 * FOLK + 1 if it is under; -2: others"
    private static void yetOfOthers() {
        YearKnot x = tied(Told.SIX_FREE + "kin e f;", "ef");
        due("each", x.yet(0) + " " + x.yet(1), "11 9");
        due("behind the last", x.yet(2), -2);
        int[] wrong = {-2, -3, 99, Integer.MAX_VALUE, Integer.MIN_VALUE};
        for (int what : wrong) {
            due("what " + what, x.yet(what), -2);
        }
        YearKnot out = four("");
        due("none yet", out.yet(-1) + " " + out.yet(0) + " " + out.yet(-2), "0 -2 -2");
    }

    private static int places(int... cut) {
        int bits = 0;
        for (int place : cut) {
            bits |= 1 << place;
        }
        return bits;
    }

    // "CUTS: the fewest places to be cut (all at once) by which it COMES OUT"
    private static void cutsFewest() {
        due("none", four("").cuts(), 0);
        due("it COMES OUT", four("abBA").cuts(), 0);
        due("one", four("d").cuts(), places(0));
        due("the one between", four("abA").cuts(), places(1));
        due("all", four("abcd").cuts(), places(0, 1, 2, 3));
        due("all, over and under", four("dAB").cuts(), places(0, 1, 2));
        due("two far behind, not three", four("CCCcB").cuts(), places(3, 4));
        due("all of six", tied(Told.SIX_FREE, "abcdef").cuts(), 63);
        due("two far behind, not four in front", four("aabAAb").cuts(), places(2, 5));
        due("two of one round a knot", four("abcbA").cuts(), places(2));
        due("one for three", four("cccc").cuts(), places(0));
        due("two for a pair", four("dddddd").cuts(), places(0, 1));
        due("under ones of a war", four("dddD").cuts(), places(0, 1));
        due("one that is far behind, not two in front", four("cccC").cuts(), places(3));
        due("the same under", four("CCCc").cuts(), places(3));
        due("of a war, too", four("dddddDDD").cuts(), places(0, 1));
        due("one of a war, not three", four("dddddDD").cuts(), places(5));
        due("one between, not all around it", four("cabAcc").cuts(), places(2));
        due("by place, not by place as moved up", four("aabbA").cuts(), places(0));
    }

    // CUTS: "of equal ones the least set (bits)"
    private static void cutsLeastSet() {
        due("the first of two", four("aaA").cuts(), places(0));
        due("a's ties or b's", four("abAb").cuts(), places(0, 2));
        due("b's or a's", four("babA").cuts(), places(0, 2));
        due("the greatest place as low as can be", four("abaA").cuts(), places(0, 1));
        due("one of three b's, and all a's", four("abbaba").cuts(), places(0, 1, 3, 5));
        due("bends", four("aaaaAA").cuts(), places(0, 1));
        due("between", four("baabAA").cuts(), places(0, 3));
    }

    // CUTS: "of 14 ties at most"; cuts: "NONE: more than 14 ties"
    private static void cutsOf14() {
        due("14", four("a".repeat(14)).cuts(), (1 << 14) - 1);
        due("15", four("a".repeat(15)).cuts(), -1);
        due("14 that COME OUT", four("aA".repeat(7)).cuts(), 0);
        due("16 that COME OUT", four("aA".repeat(8)).cuts(), -1);
        due("the 14th", four("aA".repeat(6) + "Ab").cuts(), places(1, 13));
        YearKnot x = tied(FREE, "a".repeat(24));
        due("24", x.cuts(), -1);
    }

    // No answer depends on what was asked before
    private static void oneAnswerAfterAnother() {
        String[] rows = {"abcabcabcabcab", "a", "dcbadcbadcba", "ab", "ccCbBaAdDd", "", "adadadadadadad", "bab",
            "cbcab",
            "dddaaaa", "AbAbAb", "abcd", "dc"};
        YearKnot x = four("");
        for (int n = 0; n < 2; n++) {
            for (String row : rows) {
                x.mark(0, false);
                while (x.cut(0) >= 0) {
                    due("all are cut", x.count(9), 0);
                }
                Check.ties(x, row);
                YearKnot fresh = four(row);
                if (n > 0 && row.length() > 2) {
                    due("AHEAD", x.ahead(2, 0) + " " + fresh.ahead(2, 0), "true true");
                }
                due("CUTS of " + row, x.cuts(), fresh.cuts());
                due("ORDERS of " + row, x.orders(), fresh.orders());
                due("ASK of " + row, x.ask(), fresh.ask());
                for (String other : rows) {
                    Check.other(x, Told.lines(other));
                    Check.other(fresh, Told.lines(other));
                    due("RING of " + row + " and " + other, x.ring(), fresh.ring());
                    due("PASS of " + row + " and " + other, x.pass(), fresh.pass());
                }
                due("YET of " + row, Check.yet(x), Check.yet(fresh));
                due("LOOSE of " + row, x.loose(0) + " " + x.loose(1), fresh.loose(0) + " " + fresh.loose(1));
            }
        }
    }

    // AHEAD: "that the tie at a place was tied ahead of the one at another place"; ahead: "false: others, the same"
    private static void aheadOfAnother() {
        YearKnot x = four("adc");
        for (int place = 0; place < 3; place++) {
            due("the same", x.ahead(place, place), false);
            due("no tie there", x.ahead(place, 3) + " " + x.ahead(3, place), "false false");
            for (int wrong : Told.WRONG) {
                due("no place " + wrong, x.ahead(place, wrong) + " " + x.ahead(wrong, place), "false false");
            }
        }
        due("no place at all", x.ahead(-1, -1) + " " + x.ahead(3, 3), "false false");
        due("none was told", x.count(9), 0);
        due("one", x.ahead(2, 0) + " " + x.count(9), "true 1");
        due("the other way, too", x.ahead(0, 2) + " " + x.count(9), "true 2");
        due("a line without ties", four("").ahead(0, 1) + " " + new YearKnot().ahead(0, 0), "false false");
        YearKnot full = tied(FREE, "ab".repeat(12));
        due("the 24th", full.ahead(23, 0) + " " + full.ahead(0, 23) + " " + full.ahead(24, 0), "true true false");
    }

    // AHEAD: "8 at most"; ahead: "false: .. 8 there are"
    private static void aheadEight() {
        YearKnot x = four("adadad");
        for (int n = 1; n <= 8; n++) {
            due("told " + n, x.ahead(n % 6, (n + 1) % 6) + " " + x.count(9), "true " + n);
        }
        due("a ninth", x.ahead(0, 5) + " " + x.count(9), "false 8");
        x.cut(5);
        due("eight again when they are gone", x.ahead(0, 1) + " " + x.count(9), "true 1");
    }

    // ORDERS: "by changes of places alone (not of ties of one FOLK)"
    private static void ordersByChangesAlone() {
        String[] rows = {"", "a", "aaaa", "aA", "ab", "abab", "ad", "aad", "aadd", "acd", "abcd", "dcba", "bbcA",
            "cadb"};
        int[] orders = {1, 1, 1, 1, 1, 1, 2, 3, 6, 6, 4, 4, 2, 8};
        for (int i = 0; i < rows.length; i++) {
            due("ORDERS of " + rows[i], four(rows[i]).orders(), orders[i]);
        }
        due("six who are no kin", tied(Told.SIX_FREE, "abcdef").orders(), 720);
        due("ties that come out count", four("aAdddd").orders(), 15);
    }

    // ORDERS: "and all AHEAD is so"
    private static void ordersByAhead() {
        YearKnot x = tied(Told.SIX_FREE, "abcd");
        due("all", x.orders(), 24);
        x.ahead(0, 1);
        due("half", x.orders(), 12);
        x.ahead(0, 1);
        due("told twice", x.orders(), 12);
        x.ahead(1, 2);
        due("a sixth", x.orders(), 4);
        x.ahead(0, 2);
        due("it follows", x.orders(), 4);
        x.ahead(3, 0);
        due("one", x.orders(), 1);
        x.ahead(2, 3);
        due("none", x.orders(), 0);
        YearKnot y = four("abd");
        y.ahead(1, 0);
        due("kin can't be turned", y.orders(), 0);
        YearKnot z = four("aad");
        z.ahead(2, 0);
        due("the later one ahead", z.orders(), 1);
    }

    // ORDERS: "of 14 ties at most"; orders: "NONE: more than 14 ties"
    private static void ordersOf14() {
        due("14 of one", four("a".repeat(14)).orders(), 1);
        due("15 of one", four("a".repeat(15)).orders(), -1);
        due("7 and 7", tied(FREE, "ab".repeat(7)).orders(), 3432);
        due("14 of six, four of one", tied(Told.SIX_FREE, "aabbccddeeffff").orders(), manyOrders(2, 2, 2, 2, 2, 4));
        due("14 of six", tied(Told.SIX_FREE, "abcdefabcdefab").orders(), manyOrders(3, 3, 2, 2, 2, 2));
        due("15 of six", tied(Told.SIX_FREE, "abcdefabcdefabc").orders(), -1);
        due("24", tied(Told.SIX_FREE, "abcdef".repeat(4)).orders(), -1);
    }

    // In how many ways rows of so many can be put into one.
    private static long manyOrders(int... rows) {
        long ways = 1;
        int all = 0;
        for (int row : rows) {
            for (int n = 1; n <= row; n++) {
                all++;
                ways = ways * all / n;
            }
        }
        return ways;
    }

    private static int pair(int one, int other) {
        return one * 24 + other;
    }

    // ASK: "for which the greater number of these ORDERS, in which the one, or the other, is ahead, is the least"
    private static void askLeastOfTheGreater() {
        due("two", four("ad").ask(), pair(0, 1));
        // a b c in their order, d anywhere: d is ahead of b in half of the orders
        due("the middle of three", four("abcd").ask(), pair(1, 3));
        due("the middle of four, told ahead", four("dabcb").ask(), pair(0, 2));
        due("the middle of five", four("babcbd").ask(), pair(2, 5));
        YearKnot x = four("abcd");
        x.ahead(1, 3);
        due("what is left", x.orders() + " " + x.ask(), "2 " + pair(2, 3));
        YearKnot y = four("abcd");
        y.ahead(3, 1);
        due("the other half", y.orders() + " " + y.ask(), "2 " + pair(0, 3));
    }

    // ASK: "of equal ones the first"
    private static void askFirstOfEqual() {
        due("the first of all pairs", tied(Told.SIX_FREE, "abcdef").ask(), pair(0, 1));
        due("by the lesser place first", four("aad").ask(), pair(0, 2));
        due("then by the other", four("dab").ask(), pair(0, 1));
        due("of those who part ten by six", four("abcdd").ask(), pair(0, 3));
    }

    // ASK: "if it is less than all"; ask: "NONE: none parts them"
    private static void askNone() {
        due("without ties", four("").ask(), -1);
        due("one tie", four("a").ask(), -1);
        due("one order", four("abab").ask(), -1);
        due("one FOLK", four("aaa").ask(), -1);
        YearKnot x = four("ad");
        x.ahead(0, 1);
        due("told already", x.ask(), -1);
        x.ahead(1, 0);
        due("no order", x.orders() + " " + x.ask(), "0 -1");
    }

    // ASK: "more than 14 ties"
    private static void askOf14() {
        due("14", four("a".repeat(13) + "d").ask(), pair(6, 13));
        due("15", four("a".repeat(14) + "d").ask(), -1);
        due("14 of six", tied(Told.SIX_FREE, "abcdefabcdefab").ask(), pair(0, 1));
        due("14 by turns", tied(Told.SIX_FREE, "a" + "b".repeat(13)).ask(), pair(0, 7));
        due("24", tied(FREE, "ab".repeat(12)).ask(), -1);
    }

    // "SAME: whether the LINE and OTHER are one KNOT."
    private static void sameKnot() {
        String[][] one = {{"", ""}, {"aA", ""}, {"", "dddd"}, {"ad", "da"}, {"b", "B"}, {"cc", "C"}, {"ddd", "D"},
            {"dd", "DD"}, {"acb", "cab"}, {"abBA", "cccdddd"}};
        for (String[] r : one) {
            due(r[0] + " and " + r[1], Told.both(CHECK, Told.FOUR, r[0], r[1]).same(), true);
        }
        String[][] two = {{"", "a"}, {"a", ""}, {"a", "A"}, {"ab", "ba"}, {"c", "C"}, {"d", "D"}, {"a", "aa"},
            {"a", "c"}, {"abA", "b"}, {"bc", "cb"}, {"ab", "abab"}};
        for (String[] r : two) {
            due(r[0] + " and " + r[1], Told.both(CHECK, Told.FOUR, r[0], r[1]).same(), false);
        }
        due("24 and 24", Told.both(CHECK, FREE, "ab".repeat(12), "b".repeat(12) + "a".repeat(12)).same(), true);
        due("24 and 23", Told.both(CHECK, FREE, "ab".repeat(12), "b".repeat(11) + "a".repeat(12)).same(), false);
        due("without OTHER", four("aA").same() + " " + four("a").same(), "true false");
    }

    // "PASS: whether it is one KNOT to have the LINE and then OTHER, or OTHER and then the LINE."
    private static void passEitherWay() {
        String[][] pass = {{"", ""}, {"ab", ""}, {"", "ab"}, {"a", "c"}, {"a", "a"}, {"a", "A"}, {"ab", "ab"},
            {"ab", "bA"}, {"ab", "ababab"}, {"abBA", "cb"}, {"acd", "dd"}, {"b", "aA"}, {"d", "aba"}};
        for (String[] r : pass) {
            due(r[0] + " and " + r[1], Told.both(CHECK, Told.FOUR, r[0], r[1]).pass(), true);
        }
        String[][] hold = {{"a", "b"}, {"b", "c"}, {"ab", "ba"}, {"ab", "a"}, {"ac", "b"}, {"abA", "a"}, {"aaa", "b"}};
        for (String[] r : hold) {
            due(r[0] + " and " + r[1], Told.both(CHECK, Told.FOUR, r[0], r[1]).pass(), false);
        }
        String kin = "folk a bend;folk b bend;kin a b;takes 1;";
        due("48 ties", Told.both(CHECK, kin, "ab".repeat(12), "ba".repeat(12)).pass(), false);
        due("48 ties that pass", Told.both(CHECK, kin, "ab".repeat(12), "BA".repeat(12)).pass(), true);
        due("all but one", Told.both(CHECK, kin, "ab".repeat(12), "ab".repeat(11) + "aa").pass(), false);
    }

    private static int ring(String net, String row, String other) {
        return Told.both(CHECK, net, row, other).ring();
    }

    // RING: "a tie at the beginning may be taken to the end, too, any number of times"
    private static void ringsAreTurned() {
        String[][] one = {{"", ""}, {"aA", ""}, {"a", "a"}, {"ab", "ba"}, {"aab", "aba"}, {"aab", "baa"}, {"abA", "b"},
            {"bab", "a"}, {"cbc", "Cb"}, {"abcb", "cbab"}, {"aabab", "abaab"}, {"aabab", "babaa"}, {"b", "B"},
            {"dad", "add"}, {"abcBA", "c"}, {"acb", "abc"}, {"abcab", "babca"}, {"acbacb", "cabcab"}, {"acbCA", "cbC"},
            {"acbCA", "b"}, {"abadd", "ddaab"}};
        for (String[] r : one) {
            due("ring of " + r[0] + " and " + r[1], ring(Told.FOUR, r[0], r[1]), 1);
            due("ring of " + r[1] + " and " + r[0], ring(Told.FOUR, r[1], r[0]), 1);
        }
        String[][] two = {{"", "a"}, {"a", "A"}, {"a", "aa"}, {"a", "c"}, {"ab", "aab"}, {"ab", "Ab"},
            {"aabab", "aaabb"},
            {"abaab", "abab"}, {"c", "C"}, {"cb", "Cb"}, {"ad", "aD"}, {"abab", "ab"}, {"aabAb", "ab"},
            {"abcb", "acbb"}};
        for (String[] r : two) {
            due("ring of " + r[0] + " and " + r[1], ring(Told.FOUR, r[0], r[1]), 0);
            due("ring of " + r[1] + " and " + r[0], ring(Told.FOUR, r[1], r[0]), 0);
        }
        due("parties apart are turned apart", ring(PAIRS, "abcd", "badc"), 1);
        due("the second party grows less", ring(PAIRS, "abcdc", "abccd"), 1);
        String across = "folk a bend;folk b bend;folk c bend;kin a c;";
        due("those of kin pass one who is none", ring(across, "abcac", "cacab"), 1);
        due("but not one another", ring(across, "abcac", "aabcc"), 0);
        String star = "folk a bend;folk b bend;folk c bend;kin a b;kin a c;";
        due("each two are one, but not the three", ring(star, "abac", "aabc"), 0);
        due("the three are turned", ring(star, "abac", "acab"), 1);
        due("as many, each two are one, but not the three", ring(star, "abaac", "aabac"), 0);
        due("those between pass one another", ring(star, "abcac", "bacac"), 1);
        due("but not all the way", ring(star, "aababc", "abaacb"), 0);
        due("parties together", ring(PAIRS, "abcd", "abdc"), 1);
        due("one party is another one", ring(PAIRS, "aabcd", "abdc"), 0);
        due("as to their order", ring(PAIRS, "aababcd", "dcaaabb"), 0);
    }

    // RING: "of 10 ties in each FORM at most"; ring: "NONE: more than 10 ties in one FORM"
    private static void ringsOfTen() {
        String ten = "ab".repeat(5);
        due("ten and ten", ring(Told.FOUR, ten, "ba".repeat(5)), 1);
        due("ten and none", ring(Told.FOUR, ten, ""), 0);
        due("eleven in the LINE", ring(Told.FOUR, ten + "a", ten), -1);
        due("eleven in OTHER", ring(Told.FOUR, ten, ten + "a"), -1);
        due("eleven in both", ring(Told.FOUR, ten + "a", ten + "a"), -1);
        due("eleven and none", ring(Told.FOUR, "", ten + "a"), -1);
        due("eleven of one FOLK", ring(Told.FOUR, "a".repeat(11), ""), -1);
        due("ten in the FORM of twelve", ring(Told.FOUR, ten + "aA", ten), 1);
        due("ten in the FORM of OTHER's 14", ring(Told.FOUR, ten, "dd" + ten + "dd"), 1);
        due("eleven, though closed to a ring fewer are left", ring(Told.FOUR, "aaaaabAAAAA", "b"), -1);
        due("24 that COME OUT", ring(Told.FOUR, "aA".repeat(12), "bB".repeat(12)), 1);
    }

    private static String rests(int needs, int gets, int loses) {
        YearKnot x = new YearKnot();
        int found = x.rests(needs, gets, loses, -1);
        StringBuilder text = new StringBuilder().append(found).append(':');
        for (int i = 0; i < found; i++) {
            text.append(' ').append(x.rests(needs, gets, loses, i));
        }
        CHECK.dueThrow("none such " + found, () -> x.rests(needs, gets, loses, found));
        return text.toString();
    }

    // "each gives 0 to 5: the year comes out if they give so much (0 to 10) together, or more"
    private static void restsAtTheEdges() {
        due("nothing is needed", rests(0, 9, 1), "1: 0");
        due("one is needed", rests(1, 9, 1), "2: 1 10");
        due("all is needed", rests(10, 9, 1), "2: 0 55");
        due("nine are needed", rests(9, 9, 1), "3: 0 45 54");
        due("it costs too much", rests(10, 9, 2), "1: 0");
        due("nothing to get", rests(5, 0, 9), "1: 0");
        String few = "19: 0 1 2 3 10 11 12 13 20 21 22 23 30 31 32 33 45 54 55";
        due("so much, or more; or too little for one alone", rests(9, 1, 0), few);
    }

    // "RESTS: by which neither would get more by giving otherwise": as much is not more
    private static void restsOfEqualGain() {
        due("six by giving five of five", rests(5, 5, 1), "7: 0 5 14 23 32 41 50");
        due("less than five", rests(5, 4, 1), "5: 0 14 23 32 41");
        due("more than five", rests(5, 6, 1), "6: 5 14 23 32 41 50");
        due("nine for one", rests(1, 9, 9), "3: 0 1 10");
        due("eight for one at nine", rests(1, 8, 9), "1: 0");
        due("nothing to get, nothing to lose", rests(10, 0, 0).substring(0, 3), "36:");
        due("nothing is needed, nothing to lose", rests(0, 0, 0).substring(0, 3), "36:");
        due("nothing to lose", rests(10, 9, 0).substring(0, 3), "26:");
    }

    // rests: "i: the i-th as 10 * the first one's + the other one's (the least first)"
    private static void restsLeastFirst() {
        YearKnot x = new YearKnot();
        int i = 0;
        for (int one = 0; one <= 5; one++) {
            for (int other = 0; other <= 5; other++) {
                due("the " + i + "-th of all", x.rests(0, 3, 0, i), 10 * one + other);
                i++;
            }
        }
        due("how many", x.rests(0, 3, 0, -1), 36);
        due("the first", x.rests(4, 9, 1, 0) + " " + x.rests(4, 9, 1, 4), "4 40");
    }

    // rests: "NoSuchElementException: others, none such"
    private static void restsOfOthers() {
        YearKnot x = new YearKnot();
        int[][] good = {{0, 0, 0}, {10, 0, 0}, {0, 9, 0}, {0, 0, 9}, {10, 9, 9}};
        for (int[] g : good) {
            due("the edges are good", x.rests(g[0], g[1], g[2], -1) > 0, true);
            due("the first of them", x.rests(g[0], g[1], g[2], 0) >= 0, true);
        }
        int[][] wrong = {{-1, 0, 0}, {11, 0, 0}, {0, -1, 0}, {0, 10, 0}, {0, 0, -1}, {0, 0, 10},
            {Integer.MIN_VALUE, 0, 0}, {Integer.MAX_VALUE, 0, 0}, {0, Integer.MIN_VALUE, 0}, {0, Integer.MAX_VALUE, 0},
            {0, 0, Integer.MIN_VALUE}, {0, 0, Integer.MAX_VALUE}};
        for (int[] w : wrong) {
            CHECK.dueThrow("how many of others", () -> x.rests(w[0], w[1], w[2], -1));
            CHECK.dueThrow("the first of others", () -> x.rests(w[0], w[1], w[2], 0));
        }
        int[] none = {-2, -3, 36, 37, 99, Integer.MAX_VALUE, Integer.MIN_VALUE};
        for (int what : none) {
            CHECK.dueThrow("none such", () -> x.rests(0, 0, 0, what));
        }
        CHECK.dueThrow("none such", () -> x.rests(0, 9, 1, 1));
    }

    private static long g;

    private static int draw(int below) {
        g = (g * 1103515245L + 12345L) % 2147483648L;
        return (int) (g / 65536L % below);
    }

    // Bends who are no kin: what is left of a year is what each one's ties count for.
    private static String drawn(int seed, int years, int folks, int line) {
        g = seed;
        int outs = 0;
        int all = 0;
        int most = 0;
        for (int y = 0; y < years; y++) {
            int[] sums = new int[folks];
            for (int n = 0; n < 8; n++) {
                int folk = draw(folks);
                int side = draw(2);
                sums[folk] += n >= line ? 0 : side == 0 ? 1 : -1;
            }
            int left = 0;
            for (int sum : sums) {
                left += Math.abs(sum);
            }
            outs += left == 0 ? 1 : 0;
            all += left;
            most = Math.max(most, left);
        }
        return outs + " " + all + " " + most;
    }

    private static String centuries(YearKnot x, int seed, int years) {
        return x.centuries(seed, years, 0) + " " + x.centuries(seed, years, 1) + " " + x.centuries(seed, years, 2);
    }

    // "A DRAW below m: ..": 8 times a FOLK and a side, and g goes on from year to year
    private static void centuriesByDraws() {
        String text = "";
        for (int folks = 1; folks <= 6; folks++) {
            text += "folk " + (char) ('a' + folks - 1) + " bend;";
            YearKnot x = Told.net(CHECK, text);
            int[] seeds = {0, 1, 2, 77, 4711, 9998, 9999};
            for (int seed : seeds) {
                for (int years = 1; years <= 40; years += 13) {
                    due(folks + " FOLK by " + seed + " in " + years, centuries(x, seed, years), drawn(seed, years,
                            folks, 8));
                }
            }
        }
    }

    // "then it is PULLED: years that COME OUT; ties that are left, together; the most that are left of one"
    private static void centuriesArePulled() {
        String[] nets = {Told.FOUR, PAIRS, Told.FOUR + "line 6;rope 15;", "folk a slip;",
            "folk a hitch;folk b war;kin a b;",
            "folk a war;folk b war;takes (5-place)*below;rope 9;"};
        for (String net : nets) {
            for (int seed = 0; seed < 10; seed++) {
                YearKnot byHand = Told.net(CHECK, net);
                g = seed * 1111;
                int outs = 0;
                int all = 0;
                int most = 0;
                for (int years = 1; years <= 5; years++) {
                    Check.net(byHand, net);
                    for (int n = 0; n < 8; n++) {
                        int folk = draw(byHand.count(0));
                        byHand.tie(folk, draw(2) == 0);
                    }
                    byHand.pull();
                    outs += byHand.out() ? 1 : 0;
                    all += byHand.count(5);
                    most = Math.max(most, byHand.count(5));
                    YearKnot x = Told.net(CHECK, net);
                    due(years + " years of " + net + " by " + seed * 1111, centuries(x, seed * 1111, years),
                            outs + " " + all + " " + most);
                }
            }
        }
    }

    // ".. if there are FOLK ..": without them each year COMES OUT
    private static void centuriesOfNoFolk() {
        YearKnot x = new YearKnot();
        for (int years = 1; years <= 40; years++) {
            due("no FOLK in " + years, centuries(x, 5, years), years + " 0 0");
        }
    }

    // "that TIE, if it can be": but the draws are taken
    private static void centuriesHeldToLineAndRope() {
        for (int line = 1; line <= 9; line++) {
            String told = "folk a bend;folk b bend;line " + line + ";";
            due("line " + line, centuries(Told.net(CHECK, told), 31, 40), drawn(31, 40, 2, line));
            String rope = "folk a bend;folk b bend;takes 10;rope " + (10 * line + 9) + ";";
            due("rope for " + line, centuries(Told.net(CHECK, rope), 31, 40), drawn(31, 40, 2, line));
        }
        due("no rope", centuries(Told.net(CHECK, "folk a bend;rope 0;"), 31, 40), "40 0 0");
        YearKnot x = four("abab");
        String before = Told.counts(x);
        String answer = centuries(x, 8, 9);
        due("from a line without ties", centuries(four(""), 8, 9), answer);
        due("the LINE stays", Told.counts(x) + Check.line(x), before + "abab");
    }

    // centuries: "a SEED (0 to 9999)", "years (1 to 40)", "what 0 .., 1 .., 2 ..; NONE: others"
    private static void centuriesAtTheEdges() {
        YearKnot x = Told.net(CHECK, Told.FOUR);
        int[][] good = {{0, 1, 0}, {9999, 1, 0}, {0, 40, 1}, {9999, 40, 2}};
        for (int[] c : good) {
            due("the edges are good", x.centuries(c[0], c[1], c[2]) >= 0, true);
        }
        int[][] wrong = {{-1, 1, 0}, {10000, 1, 0}, {0, 0, 0}, {0, -1, 0}, {0, 41, 0}, {0, 1, -1}, {0, 1, 3},
            {0, 1, -2},
            {Integer.MIN_VALUE, 1, 0}, {Integer.MAX_VALUE, 1, 0}, {0, Integer.MIN_VALUE, 0}, {0, Integer.MAX_VALUE, 0},
            {0, 1, Integer.MIN_VALUE}, {0, 1, Integer.MAX_VALUE}};
        for (int[] c : wrong) {
            due("others", x.centuries(c[0], c[1], c[2]), -1);
            due("others without FOLK", new YearKnot().centuries(c[0], c[1], c[2]), -1);
        }
    }
}
