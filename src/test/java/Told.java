/** What the tests by hand tell the program: a tie is its FOLK's letter, small if it is over, capital if under. */
final class Told {
    /** A bend, a slip, a hitch and a war; a and b, b and c are kin. */
    static final String FOUR = "folk a bend;folk b slip;folk c hitch;folk d war;kin a b;kin b c;";
    static final String SIX_FREE = "folk a bend;folk b bend;folk c bend;folk d bend;folk e bend;folk f bend;";
    static final int[] WRONG = {-1, -2, 99, Integer.MAX_VALUE, Integer.MIN_VALUE};

    private Told() {
    }

    static YearKnot net(Check check, String net) {
        YearKnot x = new YearKnot();
        check.due("net " + net, Check.net(x, net), 0);
        return x;
    }

    static YearKnot line(Check check, String net, String row) {
        YearKnot x = net(check, net);
        Check.ties(x, row);
        check.due("ties of " + row + " in " + net, Check.line(x), row);
        return x;
    }

    static YearKnot four(Check check, String row) {
        return line(check, FOUR, row);
    }

    /** The LINE and OTHER. */
    static YearKnot both(Check check, String net, String row, String other) {
        YearKnot x = line(check, net, row);
        check.due("other " + other, Check.other(x, lines(other)), 0);
        return x;
    }

    /** A row as lines of a YEAR or of OTHER. */
    static String lines(String row) {
        StringBuilder text = new StringBuilder();
        for (char c : row.toCharArray()) {
            text.append((char) (c | 32)).append(c >= 'a' ? " over;" : " under;");
        }
        return text.toString();
    }

    static int fault(int kind, int place) {
        return kind + 16 * place;
    }

    /** All counts but that of the signs on the TAPE, parted by blanks. */
    static String counts(YearKnot x) {
        StringBuilder text = new StringBuilder();
        for (int what = 0; what < 11; what++) {
            text.append(what == 0 ? "" : " ").append(x.count(what));
        }
        return text.toString();
    }
}
