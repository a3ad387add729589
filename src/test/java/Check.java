import java.util.NoSuchElementException;

/** What the tests share: feeding a text, and counting the answers that are not as due. */
final class Check {
    static final String THROWS = "throws.NoSuchElementException";

    private int wrong = 0;
    private int looked = 0;

    /** A call that may throw what the document names. */
    interface Call {
        Object answer() throws NoSuchElementException;
    }

    void due(String what, Object got, Object want) {
        looked++;
        if (!String.valueOf(got).equals(String.valueOf(want))) {
            wrong++;
            if (wrong <= 40) {
                System.out.println(what + " answered " + got + ", due is " + want);
            }
        }
    }

    void dueThrow(String what, Call call) {
        due(what, result(call), THROWS);
    }

    static Object result(Call call) {
        try {
            return call.answer();
        } catch (NoSuchElementException e) {
            return THROWS;
        }
    }

    boolean isClean() {
        return wrong == 0;
    }

    void end() {
        System.out.println(looked + " answers looked at, " + wrong + " not as due");
        if (wrong != 0 || looked == 0) {
            System.exit(1);
        }
    }

    static int feed(YearKnot x, String text) {
        int size = x.count(11);
        for (int i = 0; i < text.length(); i += 24) {
            size = x.feed(eight(text, i), eight(text, i + 8), eight(text, i + 16));
        }
        return size;
    }

    static long eight(String text, int from) {
        long bytes = 0;
        for (int i = from; i < from + 8; i++) {
            bytes = bytes << 8 | (i < text.length() ? text.charAt(i) : 0);
        }
        return bytes;
    }

    static int net(YearKnot x, String text) {
        feed(x, text);
        return x.net();
    }

    static int year(YearKnot x, String text) {
        feed(x, text);
        return x.year();
    }

    static int other(YearKnot x, String text) {
        feed(x, text);
        return x.other();
    }

    /** Ties in a row: a FOLK's letter, small for over, capital for under. */
    static void ties(YearKnot x, String row) {
        for (int i = 0; i < row.length(); i++) {
            char c = row.charAt(i);
            boolean over = c >= 'a';
            x.tie(over ? c - 'a' : c - 'A', over);
        }
    }

    static String line(YearKnot x) {
        StringBuilder row = new StringBuilder();
        for (int i = 0; x.at(i) >= 0; i++) {
            row.append(letter(x.at(i)));
        }
        return row.toString();
    }

    static String form(YearKnot x) {
        StringBuilder row = new StringBuilder();
        for (int i = 0; x.form(i) >= 0; i++) {
            row.append(letter(x.form(i)));
        }
        return row.toString();
    }

    static String yet(YearKnot x) {
        StringBuilder row = new StringBuilder();
        for (int i = 0; x.yet(i) >= 0; i++) {
            row.append(letter(x.yet(i)));
        }
        return row.toString();
    }

    static char letter(int tie) {
        return (char) ((tie % 2 == 0 ? 'a' : 'A') + tie / 2);
    }
}
