import java.lang.management.ManagementFactory;
import java.util.Random;

/** Wild arguments in any order: nothing throws, and a run takes little room. */
final class WildTest {
    private static final int[] EDGES = {
        Integer.MIN_VALUE, Integer.MIN_VALUE + 1, Integer.MAX_VALUE, Integer.MAX_VALUE - 1, -1000, -10, -2, -1, 0, 1, 2, 3, 5,
        6, 7, 8, 9, 10, 11, 15, 16, 20, 25, 26, 30, 31, 32, 33, 40, 41, 45, 50, 59, 60, 63, 64, 73, 74, 99, 600, 601
    };
    private static final String[] TEXTS = {
        "person 5;person 0;knows 0 1;hears 1 0;", "person 3;person 3;person 3;person 3;person 3;person 3;follows 0 1;"
            + "follows 1 0;knows 5 1;hears 1 5;hears 4 5;", "eve;tell 0 0;", "see 1 1;tell 1 1;sell 0 1 2;eve;", "told 1;", ""
    };

    private final Random random;

    private WildTest(long seed) {
        random = new Random(seed);
    }

    public static void main(String[] args) {
        for (int run = 0; run < 400; run++) {
            new WildTest(run).go();
        }
        room();
        Check.finish();
    }

    private void go() {
        OneStatement x = new OneStatement();
        long sum = 0;
        for (int call = 0; call < 1500; call++) {
            sum += random.nextInt(6) == 0 ? tell(x) : ask(x, random.nextInt(31));
        }
        Check.due("a run ends", sum == sum, true);
    }

    private int wild() {
        int kind = random.nextInt(10);
        return kind == 0 ? random.nextInt() : kind < 4 ? EDGES[random.nextInt(EDGES.length)] : random.nextInt(7) - 1;
    }

    private long tell(OneStatement x) {
        String text = TEXTS[random.nextInt(TEXTS.length)];
        x.end(0);
        Check.feed(x, 0, text);
        return x.text(random.nextInt(3), random.nextInt(3) - 1);
    }

    private long ask(OneStatement x, int which) {
        int a = wild();
        int b = wild();
        int c = wild();
        int d = wild();
        boolean e = random.nextBoolean();
        return switch (which) {
            case 0 -> x.feed(a, b, c, d, wild());
            case 1 -> x.end(a);
            case 2 -> x.text(a, b);
            case 3 -> x.fault(a);
            case 4 -> x.town(a, b);
            case 5 -> x.deed(a, b, c);
            case 6 -> x.till(a, b);
            case 7 -> x.state(a, b, c, d);
            case 8 -> x.tellings(a, b, c);
            case 9 -> x.message(a, b, c);
            case 10 -> x.bell(a, b);
            case 11 -> x.weddings(a, b);
            case 12 -> x.code(a);
            case 13 -> x.save(a, b, c);
            case 14 -> x.byTurns(a, b, e);
            case 15 -> x.fact(a, b, c);
            case 16 -> x.fits(a, b, c);
            case 17 -> x.drawn(a, b, c, d);
            case 18 -> x.roots(a, b);
            case 19 -> x.chain(a, b);
            case 20 -> x.reach(a, b);
            case 21 -> x.learnt(a, b, c);
            case 22 -> x.best(a, b, e);
            case 23 -> x.sales(a, b);
            case 24 -> x.luck(a, b, e);
            case 25 -> x.after(a, b, c);
            case 26 -> x.share(a, b, c, e);
            case 27 -> x.fewest(a, b, e);
            case 28 -> x.count(a);
            case 29 -> x.image(a) ? 1 : 0;
            default -> x.again(a) ? 1 : 0;
        };
    }

    /** No call but text(), image() and code() makes an object; a run of texts alone stays far below the room. */
    private static void room() {
        if (!(ManagementFactory.getThreadMXBean() instanceof com.sun.management.ThreadMXBean bean)) {
            return;
        }
        OneStatement x = new OneStatement();
        long id = Thread.currentThread().getId();
        long before = bean.getThreadAllocatedBytes(id);
        for (int call = 0; call < 256; call++) {
            x.feed(0x6576653b, 0x6576653b, 0x6576653b, 0x6576653b, 0x6576653b);
            x.text(1, call == 0 ? -1 : 0);
        }
        for (int call = 0; call < 256; call++) {
            x.text(0, call == 0 ? -1 : 0);
        }
        long taken = bean.getThreadAllocatedBytes(id) - before;
        Check.due("a run of texts takes " + taken + " bytes", taken < 1_000_000, true);
    }
}
