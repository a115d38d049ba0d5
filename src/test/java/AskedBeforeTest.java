import java.util.ArrayList;
import java.util.List;
import java.util.Random;

/**
 * What a call answers does not hang on what was asked before: an object that was asked much of full and of empty TOWNS,
 * YEARS and LOGS answers as a new one does that is told the same and asked nothing else.
 */
final class AskedBeforeTest {
    private static final int NONE = OneStatement.NONE;
    private static final String[][] TEXTS = {
        {
            "person 5;person 0;person 12;person 30;person 1;person 2;worth 0 4;worth 1 2;worth 2 7;worth 5 20;follows 0 1;"
                + "follows 1 3;follows 4 2;knows 0 0;knows 1 4;knows 2 3;knows 5 5;knows 4 2;hears 1 0;hears 2 1;hears 0 2;"
                + "hears 3 5;hears 0 5;hears 4 5;hears 5 4;hears 2 4;",
            "person 0;person 0;hears 1 0;", "person 9;knows 0 5;", "",
            "follows 5 4;follows 4 3;follows 3 2;follows 2 1;follows 1 0;person 0;person 0;person 0;knows 2 5;hears 0 2;hears 1 2;"
        },
        {
            "ask 1 5;tell 0 0;ask 1 5;sell 2 0 5;eve;tell 1 0;see 0 5;tell 0 5;ask 0 4;ask 0 4;eve;eve;", "", "tell 0 5;", "eve;",
            "ask 0 1;ask 0 1;"
        },
        {"told 1;asked 2;", "", "told 0;asked 0;", "told 0;told 1;told 2;told 3;told 4;told 5;", "asked 5;"}
    };

    private interface Asked {
        long of(OneStatement x, int town, int year, int log);
    }

    private static final List<Asked> CALLS = new ArrayList<>();

    public static void main(String[] args) {
        calls();
        Check.says("what a call answers does not hang on what was asked before");
        for (int run = 0; run < 60; run++) {
            go(new Random(run));
        }
        Check.finish();
    }

    private static void calls() {
        for (int k = NONE; k < 6; k++) {
            int at = k;
            CALLS.add((x, t, y, l) -> x.bell(t, at));
            CALLS.add((x, t, y, l) -> x.weddings(t, at));
            CALLS.add((x, t, y, l) -> x.sales(t, at));
            CALLS.add((x, t, y, l) -> x.chain(t, at));
            CALLS.add((x, t, y, l) -> x.tellings(t, 5, at));
            CALLS.add((x, t, y, l) -> x.after(t, y, at));
            CALLS.add((x, t, y, l) -> x.reach(t, at));
            CALLS.add((x, t, y, l) -> x.fits(t, l, at));
        }
        for (int k = 0; k < 6; k++) {
            int at = k;
            CALLS.add((x, t, y, l) -> x.state(t, y, at, 0));
            CALLS.add((x, t, y, l) -> x.state(t, y, at, 1));
            CALLS.add((x, t, y, l) -> x.state(t, y, at, 2));
            CALLS.add((x, t, y, l) -> x.state(t, y, 1, 10 + at));
            CALLS.add((x, t, y, l) -> x.state(t, y, 4, 20 + at));
            CALLS.add((x, t, y, l) -> x.state(t, y, 3, 30 + at));
            CALLS.add((x, t, y, l) -> x.state(t, y, 1, 40 + at));
            CALLS.add((x, t, y, l) -> x.drawn(t, at, 60, 10 + at));
            CALLS.add((x, t, y, l) -> x.drawn(t, at, 60, 40 + at));
            CALLS.add((x, t, y, l) -> x.drawn(t, at, 60, 2));
            CALLS.add((x, t, y, l) -> x.message(t, 5, at));
            CALLS.add((x, t, y, l) -> x.luck(t, at, true));
            CALLS.add((x, t, y, l) -> x.byTurns(t, at, true));
            CALLS.add((x, t, y, l) -> x.byTurns(t, at, false));
            CALLS.add((x, t, y, l) -> x.share(t, l, at, true));
            CALLS.add((x, t, y, l) -> x.best(t, at, true));
            CALLS.add((x, t, y, l) -> x.roots(t, at));
        }
        CALLS.add((x, t, y, l) -> x.till(t, y));
        CALLS.add((x, t, y, l) -> x.code(t));
        CALLS.add((x, t, y, l) -> x.save(6, 9, 0));
        CALLS.add((x, t, y, l) -> x.fewest(t, l, false));
    }

    private static OneStatement told(String[] texts) {
        OneStatement x = new OneStatement();
        for (int k = 0; k < 6; k++) {
            Check.due("text", Check.tell(x, k / 2, NONE, texts[k]), k % 2);
        }
        return x;
    }

    private static void go(Random random) {
        String[] texts = new String[6];
        for (int k = 0; k < 6; k++) {
            texts[k] = TEXTS[k / 2][random.nextInt(5)];
        }
        OneStatement x = told(texts);
        for (int call = 0; call < 350; call++) {
            int which = random.nextInt(CALLS.size());
            int t = random.nextInt(2);
            int y = random.nextInt(2);
            int l = random.nextInt(2);
            String name = "call " + which + " of <" + texts[t] + "> <" + texts[2 + y] + "> <" + texts[4 + l] + ">";
            Check.due(name, CALLS.get(which).of(x, t, y, l), CALLS.get(which).of(told(texts), t, y, l));
        }
    }
}
