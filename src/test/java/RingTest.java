import java.util.Random;

/** RINGS of up to 10 ties by 3 to 6 FOLK, turned and spoiled by fixed seeds, against the slow model's search. */
public final class RingTest {
    private static final String[] KINDS = {"bend", "bend", "slip", "hitch", "war"};

    private final Random random;
    private final Check check;

    private RingTest(int seed, Check check) {
        random = new Random(seed);
        this.check = check;
    }

    public static void main(String[] args) {
        Check check = new Check();
        int rounds = args.length > 0 ? Integer.parseInt(args[0]) : 1500;
        for (int seed = 0; seed < rounds; seed++) {
            new RingTest(seed, check).go();
        }
        check.end();
    }

    private int below(int n) {
        return random.nextInt(n);
    }

    private void go() {
        int folks = 3 + below(4);
        String net = net(folks);
        String row = row(folks, 4 + below(7));
        String other = row;
        for (int spoiled = below(4); spoiled > 0; spoiled--) {
            other = spoiled(turned(other));
        }
        other = turned(other);
        YearKnot fast = Told.both(check, net, row, other);
        int want = slow(net, row, other).ring(0);
        if (want != -9) {
            check.due("ring of " + row + " and " + other + " in " + net, fast.ring(), want);
        }
    }

    private String net(int folks) {
        StringBuilder text = new StringBuilder("rope 999;");
        for (int f = 0; f < folks; f++) {
            text.append("folk ").append((char) ('a' + f)).append(' ').append(KINDS[below(5)]).append(';');
        }
        int often = 20 + below(60);
        for (int f = 0; f < folks; f++) {
            for (int g = 0; g < f; g++) {
                if (below(100) < often) {
                    text.append("kin ").append((char) ('a' + f)).append(' ').append((char) ('a' + g)).append(';');
                }
            }
        }
        return text.toString();
    }

    private String row(int folks, int ties) {
        StringBuilder row = new StringBuilder();
        for (int i = 0; i < ties; i++) {
            row.append((char) ((below(5) == 0 ? 'A' : 'a') + below(folks)));
        }
        return row.toString();
    }

    private String turned(String row) {
        int from = below(row.length());
        return row.substring(from) + row.substring(0, from);
    }

    // Two ties change places, whether they may or not.
    private String spoiled(String row) {
        int place = below(row.length() - 1);
        return row.substring(0, place) + row.charAt(place + 1) + row.charAt(place) + row.substring(place + 2);
    }

    private static Slow slow(String net, String row, String other) {
        Slow slow = new Slow();
        feed(slow, net);
        slow.net();
        for (char tie : row.toCharArray()) {
            slow.tie((tie | 32) - 'a', tie >= 'a');
        }
        feed(slow, Told.lines(other));
        slow.other();
        return slow;
    }

    private static void feed(Slow slow, String text) {
        for (int i = 0; i < text.length(); i += 24) {
            slow.feed(Check.eight(text, i), Check.eight(text, i + 8), Check.eight(text, i + 16));
        }
    }
}
