import java.lang.management.ManagementFactory;
import java.util.Random;

/** An object takes little room, and 512 calls of the dearest sort take no more and come to an end. */
public final class RoomTest {
    private static final com.sun.management.ThreadMXBean THREADS =
            (com.sun.management.ThreadMXBean) ManagementFactory.getThreadMXBean();

    public static void main(String[] args) {
        Check check = new Check();
        taken();
        long before = taken();
        YearKnot x = new YearKnot();
        check.due("an object is small", taken() - before < 200_000, true);
        dearest(x, 1);
        before = taken();
        for (int seed = 0; seed < 40; seed++) {
            dearest(x, seed);
        }
        long each = (taken() - before) / 40;
        check.due("512 calls take no room, but took " + each, each < 4_000, true);
        check.end();
    }

    private static long taken() {
        return THREADS.getThreadAllocatedBytes(Thread.currentThread().getId());
    }

    private static void feed(YearKnot x, String text) {
        for (int i = 0; i < text.length(); i += 24) {
            x.feed(Check.eight(text, i), Check.eight(text, i + 8), Check.eight(text, i + 16));
        }
    }

    private static final String[] NETS = {
        "folk a hitch;folk b hitch;folk c hitch;folk d hitch;folk e hitch;kin a b;kin b c;kin c d;kin d e;rope 999;",
        "folk a war;folk b war;folk c bend;folk d slip;folk e bend;folk f hitch;kin a b;kin c d;rope 999;takes 1+place;",
    };

    private static void dearest(YearKnot x, int seed) {
        feed(x, NETS[seed % NETS.length]);
        x.net();
        Random random = new Random(seed);
        for (int i = 0; i < 14; i++) {
            x.tie(random.nextInt(5), random.nextBoolean());
        }
        feed(x, "a over;b over;c under;b under;a over;");
        x.other();
        feed(x, "a over;b over;pull;cut 0;c under;pull;b under;a over;pull;");
        x.year();
        for (int i = 0; i < 30; i++) {
            x.cuts();
            x.ask();
            x.orders();
            x.ring();
            x.pass();
            x.same();
            x.judged(2);
            x.centuries(seed, 40, 1);
            x.yet(-1);
            x.loose(0);
            x.fault();
            x.shown();
            x.pull();
            x.undo();
        }
    }
}
