import java.util.Random;

/** Long runs of calls, drawn by fixed seeds, with every answer held against the slow model's. */
public final class ModelTest {
    private static final String[] KINDS = {"bend", "slip", "hitch", "war"};
    private static final String[] NAMES = {"a", "bo", "place", "sort", "longname", "z"};
    private static final String[] LAWS = {"", "takes 1;", "takes 0;", "takes 2+kins-below;", "takes place*place-9;",
        "takes not below*7+sort<3 or place=2;", "takes 9999*9999*9999*sort+3;", "takes (place<5 and below)*12+1;",
        "takes not not(sort=1)*90+kins*(place-2);", "takes 60*(sort+1);", "takes kins and sort or below+1;"};

    private final Random random;
    private final Check check;
    private final YearKnot fast = new YearKnot();
    private final Slow slow = new Slow();
    private final String run;
    private int calls = 0;

    private ModelTest(int seed, Check check) {
        random = new Random(seed);
        this.check = check;
        run = "seed " + seed;
    }

    public static void main(String[] args) {
        Check check = new Check();
        int from = args.length > 0 ? Integer.parseInt(args[0]) : 0;
        int to = args.length > 1 ? Integer.parseInt(args[1]) : 260;
        for (int seed = from; seed < to; seed++) {
            new ModelTest(seed, check).go();
        }
        check.end();
    }

    private int below(int n) {
        return random.nextInt(n);
    }

    private void due(String call, Object got, Object want) {
        calls++;
        check.due(run + " call " + calls + ": " + call + " on " + slow.now.line + " other " + slow.now.other, got, want);
    }

    private void go() {
        tellNet();
        int most = 120 + below(80);
        while (calls < most) {
            step();
        }
    }

    private void feed(String text) {
        for (int i = 0; i < text.length(); i += 24) {
            long a = Check.eight(text, i);
            long b = Check.eight(text, i + 8);
            long c = Check.eight(text, i + 16);
            due("feed", fast.feed(a, b, c), slow.feed(a, b, c));
        }
    }

    private void tellNet() {
        StringBuilder text = new StringBuilder();
        int folks = below(20) == 0 ? 0 : 1 + below(6);
        int kinds = below(6);
        for (int f = 0; f < folks; f++) {
            text.append("folk ").append(NAMES[f]).append(' ').append(KINDS[kinds < 4 ? kinds : below(4)]).append(';');
        }
        int often = below(101);
        for (int f = 0; f < folks; f++) {
            for (int g = 0; g < f; g++) {
                if (below(100) < often) {
                    text.append("kin ").append(NAMES[f]).append(' ').append(NAMES[g]).append(';');
                }
            }
        }
        if (below(3) == 0) {
            text.append("line ").append(1 + below(24)).append(";");
        }
        if (below(3) == 0) {
            text.append("rope ").append(below(100)).append(";");
        }
        text.append(LAWS[below(2) == 0 ? 0 : below(LAWS.length)]);
        feed(text.toString());
        due("net", fast.net(), slow.net());
    }

    private String name() {
        return NAMES[below(Math.max(1, slow.net.names.size()))];
    }

    private void tellYear() {
        StringBuilder text = new StringBuilder();
        int lines = below(42);
        for (int i = 0; i < lines; i++) {
            int what = below(10);
            if (what == 0) {
                text.append("pull;");
            } else if (what < 3) {
                text.append("cut ").append(below(8)).append(";");
            } else {
                text.append(name()).append(below(2) == 0 ? " over;" : " under;");
            }
        }
        feed(text.toString());
        due("year", fast.year(), slow.year());
    }

    private void tellOther() {
        StringBuilder text = new StringBuilder();
        boolean turn = below(2) == 0 && !slow.now.line.isEmpty();
        if (turn) {
            int n = slow.now.line.size();
            int from = below(n);
            for (int i = 0; i < n; i++) {
                int t = slow.now.line.get((from + i) % n);
                text.append(NAMES[t / 2]).append(t % 2 == 0 ? " over;" : " under;");
            }
        } else {
            int lines = below(below(8) == 0 ? 26 : 7);
            for (int i = 0; i < lines; i++) {
                text.append(name()).append(below(2) == 0 ? " over;" : " under;");
            }
        }
        feed(text.toString());
        due("other", fast.other(), slow.other());
    }

    private void step() {
        int folks = slow.net.names.size();
        int size = slow.now.line.size();
        switch (below(40)) {
            case 0:
                if (below(12) == 0) {
                    tellNet();
                }
                break;
            case 1:
                tellYear();
                break;
            case 2:
            case 3:
                tellOther();
                break;
            case 4: {
                int f = below(8) - 1;
                int what = below(4) - 1;
                due("folk", fast.folk(f, what), slow.folk(f, what));
                break;
            }
            case 5: {
                int place = below(size + 2) - 1;
                due("cut " + place, fast.cut(place), slow.cut(place));
                break;
            }
            case 6:
                due("pull", fast.pull(), slow.pull());
                break;
            case 7:
                due("undo", fast.undo(), slow.undo());
                break;
            case 8: {
                int what = below(5) - 1;
                due("judged " + what, fast.judged(what), slow.judged(what));
                break;
            }
            case 9: {
                int place = below(size + 2) - 1;
                due("at " + place, fast.at(place), slow.at(place));
                break;
            }
            case 10: {
                int place = below(size + 2) - 1;
                due("form " + place, fast.form(place), slow.form(place));
                break;
            }
            case 11:
                due("out", fast.out(), slow.out());
                break;
            case 12:
                due("held", fast.held(), slow.held());
                break;
            case 13:
                due("fault", fast.fault(), slow.fault());
                break;
            case 14: {
                int f = below(folks + 2) - 1;
                due("sum " + f, Check.result(() -> fast.sum(f)), Check.result(() -> slow.sum(f)));
                break;
            }
            case 15:
                due("shown", fast.shown(), slow.shown());
                break;
            case 16: {
                int what = below(4) - 1;
                due("loose " + what, fast.loose(what), slow.loose(what));
                break;
            }
            case 17: {
                int what = below(size + 4) - 2;
                due("yet " + what, fast.yet(what), slow.yet(what));
                break;
            }
            case 18:
                if (size <= 10 || size > 14 || below(6) == 0) {
                    due("cuts", fast.cuts(), slow.cuts());
                }
                break;
            case 19:
            case 20: {
                int a = below(size + 2) - 1;
                int b = below(size + 2) - 1;
                due("ahead " + a + " " + b, fast.ahead(a, b), slow.ahead(a, b));
                break;
            }
            case 21:
                due("orders", fast.orders(), slow.orders());
                break;
            case 22:
                due("ask", fast.ask(), slow.ask());
                break;
            case 23:
                due("same", fast.same(), slow.same());
                break;
            case 24:
                due("pass", fast.pass(), slow.pass());
                break;
            case 25: {
                int want = slow.ring();
                if (want != -9) {
                    due("ring", fast.ring(), want);
                }
                break;
            }
            case 26: {
                int needs = below(13) - 1;
                int gets = below(12) - 1;
                int loses = below(5) == 0 ? below(12) - 1 : below(3);
                int what = below(8) - 2;
                due("rests " + needs + " " + gets + " " + loses + " " + what,
                        Check.result(() -> fast.rests(needs, gets, loses, what)),
                        Check.result(() -> slow.rests(needs, gets, loses, what)));
                break;
            }
            case 27: {
                int seed = below(9) == 0 ? 9999 + below(2) : below(10000) - 1;
                int years = below(43) - 1;
                int what = below(5) - 1;
                due("centuries " + seed + " " + years + " " + what, fast.centuries(seed, years, what),
                        slow.centuries(seed, years, what));
                break;
            }
            case 28: {
                int mark = below(6) - 1;
                boolean back = below(3) == 0;
                due("mark " + mark + " " + back, fast.mark(mark, back), slow.mark(mark, back));
                break;
            }
            case 29:
            case 30: {
                int what = below(14) - 1;
                due("count " + what, fast.count(what), slow.count(what));
                break;
            }
            default: {
                int f = below(12) == 0 ? below(folks + 2) - 1 : below(Math.max(1, folks));
                boolean over = below(2) == 0;
                due("tie " + f + " " + over, fast.tie(f, over), slow.tie(f, over));
            }
        }
    }
}
