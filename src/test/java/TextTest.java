import java.util.Random;

/** Texts told right and wrong, drawn by fixed seeds, held against the slow model's reading. */
public final class TextTest {
    private static final String[] PIECES = {"folk", "kin", "line", "rope", "takes", "over", "under", "cut", "pull",
        "bend", "slip", "hitch", "war", "not", "and", "or", "place", "sort", "kins", "below", "a", "b", "c", "d", "e",
        "f", "g", "abcdefgh", "abcdefghi", "0", "1", "2", "23", "24", "25", "999", "1000", "9999", "10000", "(", ")",
        "<", "=", "+", "-", "*", ";", ";", " ", "\n", "A", "!", ",", "~", "_", "{"};
    private static final String[] KINDS = {"bend", "slip", "hitch", "war"};
    private static final String[] FACTS = {"place", "sort", "kins", "below", "3", "0", "17"};
    private static final String[] JOINTS = {"+", "-", "*", "<", "=", " and ", " or "};

    private final Random random;

    private TextTest(int seed) {
        random = new Random(seed);
    }

    public static void main(String[] args) {
        Check check = new Check();
        int rounds = args.length > 0 ? Integer.parseInt(args[0]) : 12000;
        for (int seed = 0; seed < rounds; seed++) {
            new TextTest(seed).go(seed, check);
        }
        check.end();
    }

    private int below(int n) {
        return random.nextInt(n);
    }

    private void go(int seed, Check check) {
        YearKnot fast = new YearKnot();
        Slow slow = new Slow();
        if (below(2) == 0) {
            feed(fast, slow, "folk a bend;folk b slip;folk c war;kin a b;");
            fast.net();
            slow.net();
        }
        for (int n = 0; n < 4; n++) {
            int what = below(3);
            String text = what == 0 ? netText() : lineText(what == 1);
            if (below(3) > 0) {
                text = spoiled(text);
            }
            feed(fast, slow, text);
            int got = what == 0 ? fast.net() : what == 1 ? fast.year() : fast.other();
            int want = what == 0 ? slow.net() : what == 1 ? slow.year() : slow.other();
            check.due("seed " + seed + " reading " + what + " of '" + text + "'", got, want);
            for (int i = 0; i < 12; i++) {
                check.due("seed " + seed + " count " + i, fast.count(i), slow.count(i));
            }
            tieAndCount(seed, check, fast, slow);
        }
    }

    private void tieAndCount(int seed, Check check, YearKnot fast, Slow slow) {
        for (int i = 0; i < 3; i++) {
            int f = below(6);
            boolean over = below(2) == 0;
            check.due("seed " + seed + " tie", fast.tie(f, over), slow.tie(f, over));
            check.due("seed " + seed + " used", fast.count(4), slow.count(4));
            check.due("seed " + seed + " kin", fast.folk(f, 1), slow.folk(f, 1));
            check.due("seed " + seed + " kind", fast.folk(f, 0), slow.folk(f, 0));
        }
        check.due("seed " + seed + " judged", fast.judged(2), slow.judged(2));
    }

    private static void feed(YearKnot fast, Slow slow, String text) {
        for (int i = 0; i < text.length(); i += 24) {
            long a = Check.eight(text, i);
            long b = Check.eight(text, i + 8);
            long c = Check.eight(text, i + 16);
            fast.feed(a, b, c);
            slow.feed(a, b, c);
        }
    }

    private String netText() {
        StringBuilder text = new StringBuilder();
        int folks = below(8);
        for (int f = 0; f < folks; f++) {
            text.append("folk ").append((char) ('a' + f)).append(' ').append(KINDS[below(4)]).append(';');
        }
        int kins = below(5);
        for (int i = 0; i < kins && folks > 1; i++) {
            int one = below(folks);
            int two = below(6) == 0 ? below(folks + 1) : (one + 1 + below(folks - 1)) % folks;
            text.append("kin ").append((char) ('a' + one)).append(' ').append((char) ('a' + two)).append(';');
        }
        if (below(2) == 0) {
            text.append("line ").append(below(8) == 0 ? below(30) : 1 + below(24)).append(";");
        }
        if (below(2) == 0) {
            text.append("rope ").append(below(8) == 0 ? 990 + below(20) : below(999)).append(";");
        }
        if (below(3) > 0) {
            text.append("takes ").append(law(0)).append(';');
        }
        return text.toString();
    }

    private String law(int depth) {
        StringBuilder text = new StringBuilder(part(depth));
        int more = below(4);
        for (int i = 0; i < more; i++) {
            text.append(JOINTS[below(JOINTS.length)]).append(part(depth));
        }
        return text.toString();
    }

    private String part(int depth) {
        int what = below(depth > 6 ? 2 : 5);
        if (what == 3) {
            return "not " + part(depth + 1);
        }
        return what == 4 ? "(" + law(depth + 1) + ")" : FACTS[below(FACTS.length)];
    }

    private String lineText(boolean year) {
        StringBuilder text = new StringBuilder();
        int lines = below(4) == 0 ? (year ? 38 : 22) + below(5) : below(6);
        for (int i = 0; i < lines; i++) {
            int what = below(year ? 8 : 6);
            if (what == 6) {
                text.append("pull;");
            } else if (what == 7) {
                text.append("cut ").append(below(25)).append(';');
            } else {
                text.append((char) ('a' + below(3))).append(below(2) == 0 ? " over;" : " under;");
            }
        }
        return text.toString();
    }

    private String spoiled(String text) {
        StringBuilder spoiled = new StringBuilder(text);
        int times = 1 + below(3);
        for (int i = 0; i < times; i++) {
            int place = below(spoiled.length() + 1);
            int what = below(4);
            if (what == 0 && place < spoiled.length()) {
                spoiled.deleteCharAt(place);
            } else if (what == 1) {
                spoiled.setLength(place);
            } else {
                spoiled.insert(place, (below(2) == 0 ? " " : "") + PIECES[below(PIECES.length)] + (below(2) == 0 ? " " : ""));
            }
        }
        return spoiled.toString();
    }
}
