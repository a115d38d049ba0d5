import java.util.ArrayList;
import java.util.List;

/**
 * Each call with numbers of TOWNS, YEARS and LOGS that are there and that are not; and each call that is refused, or only
 * asks, leaves all that is told as it was.
 */
final class NoneSuchTest {
    private static final int NONE = OneStatement.NONE;
    private static final int MIN = Integer.MIN_VALUE;
    private static final int MAX = Integer.MAX_VALUE;
    private static final int[] NUMBERS = {MIN, -3, -2, -1, 0, 1, 2, 3, 32, MAX};
    private static final String TOWN = "person 3;person 4;knows 0 0;hears 1 0;";
    private static final String YEAR = "tell 0 0;eve;";
    private static final String LOG = "told 0;";

    private interface Asked {
        long of(OneStatement x, int town, int year, int log);
    }

    /** A call, which numbers it takes (t, y, l), what it answers by what is told here, and where there is none such. */
    private record Call(String promise, String takes, long there, long none, Asked asked) {
    }

    private static final List<Call> CALLS = List.of(
        new Call("6: town, NONE: there is none such (of any)", "t", 2, NONE, (x, t, y, l) -> x.town(t, 0)),
        new Call("6: town, of a FACT", "t", 1, NONE, (x, t, y, l) -> x.town(t, 10)),
        new Call("6: town, of a PERSON", "t", 3, NONE, (x, t, y, l) -> x.town(t, 30)),
        new Call("7: deed, -2: there is none such (of either)", "y", 2, -2, (x, t, y, l) -> x.deed(y, NONE, 0)),
        new Call("7: deed, of a DEED", "y", 4, -2, (x, t, y, l) -> x.deed(y, 1, 0)),
        new Call("8: till, NONE: there is none such (of either)", "ty", 2, NONE, (x, t, y, l) -> x.till(t, y)),
        new Call("9: state, NONE: there is no such STATE", "ty", 0, NONE, (x, t, y, l) -> x.state(t, y, 0, 0)),
        new Call("9: state, of a PERSON", "ty", 3, NONE, (x, t, y, l) -> x.state(t, y, 2, 20)),
        new Call("10: tellings, NONE: there is none such (of either)", "t", 1, NONE, (x, t, y, l) -> x.tellings(t, 0, NONE)),
        new Call("10: tellings, by whom", "t", 0, NONE, (x, t, y, l) -> x.tellings(t, 0, 0)),
        new Call("11: message, NONE: there is none such (of any)", "t", 1, NONE, (x, t, y, l) -> x.message(t, 0, 1)),
        new Call("12: bell, NONE: there is none such (of either)", "t", 1, NONE, (x, t, y, l) -> x.bell(t, NONE)),
        new Call("12: bell, what he tells", "t", 0, NONE, (x, t, y, l) -> x.bell(t, 0)),
        new Call("13: weddings, NONE: there is none such (of either)", "t", 1, NONE, (x, t, y, l) -> x.weddings(t, NONE)),
        new Call("13: weddings, whom he weds", "t", 1, NONE, (x, t, y, l) -> x.weddings(t, 0)),
        new Call("14: code, NONE: there is none such", "t", 16, NONE, (x, t, y, l) -> x.code(t)),
        new Call("16: byTurns, -999: there is none such", "t", 1, -999, (x, t, y, l) -> x.byTurns(t, 1, false)),
        new Call("16: byTurns, first", "t", 0, -999, (x, t, y, l) -> x.byTurns(t, 1, true)),
        new Call("16: byTurns, n 0", "t", 0, -999, (x, t, y, l) -> x.byTurns(t, 0, false)),
        new Call("16: byTurns, n 0, first", "t", NONE, -999, (x, t, y, l) -> x.byTurns(t, 0, true)),
        new Call("17: fact, -2: there is none such (of either)", "l", 1, -2, (x, t, y, l) -> x.fact(l, NONE, 0)),
        new Call("17: fact, of a LINE", "l", 0, -2, (x, t, y, l) -> x.fact(l, 0, 1)),
        new Call("18: fits, -2: there is none such (of any)", "tl", 32, -2, (x, t, y, l) -> x.fits(t, l, 0)),
        new Call("18: fits, SURE", "tl", 1, -2, (x, t, y, l) -> x.fits(t, l, 1)),
        new Call("18: fits, WHOSE", "tl", 1, -2, (x, t, y, l) -> x.fits(t, l, 3)),
        new Call("18: fits, the k-th", "tl", 1, -2, (x, t, y, l) -> x.fits(t, l, 10)),
        new Call("19: drawn, NONE: there is none such", "t", 0, NONE, (x, t, y, l) -> x.drawn(t, 0, 0, 0)),
        new Call("19: drawn, of a PERSON", "t", 3, NONE, (x, t, y, l) -> x.drawn(t, 0, 0, 20)),
        new Call("20: roots, NONE: there is none such", "t", 6, NONE, (x, t, y, l) -> x.roots(t, 0)),
        new Call("20: roots, WHOLE", "t", 1, NONE, (x, t, y, l) -> x.roots(t, 15)),
        new Call("21: chain, NONE: there is none such", "t", 1, NONE, (x, t, y, l) -> x.chain(t, NONE)),
        new Call("21: chain, the k-th", "t", 0, NONE, (x, t, y, l) -> x.chain(t, 0)),
        new Call("22: reach, -2: there is none such (of either)", "t", 0, -2, (x, t, y, l) -> x.reach(t, 0)),
        new Call("22: reach, REACH", "t", 3, -2, (x, t, y, l) -> x.reach(t, 10)),
        new Call("23: learnt, NONE: there is none such (of any)", "t", 1, NONE, (x, t, y, l) -> x.learnt(t, 0, 0)),
        new Call("24: best, -2: there is none such (of either)", "t", 0, -2, (x, t, y, l) -> x.best(t, 0, false)),
        new Call("24: best, how much", "t", 1, -2, (x, t, y, l) -> x.best(t, 0, true)),
        new Call("25: sales, NONE: there is none such (of either)", "t", 1, NONE, (x, t, y, l) -> x.sales(t, NONE)),
        new Call("25: sales, who buys", "t", 0, NONE, (x, t, y, l) -> x.sales(t, 1)),
        new Call("26: luck, NONE: there is none such (of either)", "t", 1, NONE, (x, t, y, l) -> x.luck(t, 1, false)),
        new Call("26: luck, D", "t", 2, NONE, (x, t, y, l) -> x.luck(t, 1, true)),
        new Call("27: after, -2: there is none such (of either)", "ty", 0, -2, (x, t, y, l) -> x.after(t, y, 0)),
        new Call("27: after, GUESSED", "ty", 0, -2, (x, t, y, l) -> x.after(t, y, 5)),
        new Call("28: share, NONE: there is none such (of any)", "tl", 1, NONE, (x, t, y, l) -> x.share(t, l, 0, false)),
        new Call("28: share, D", "tl", 2, NONE, (x, t, y, l) -> x.share(t, l, 1, true)),
        new Call("29: fewest, NONE: there is none such (of either)", "tl", 1, NONE, (x, t, y, l) -> x.fewest(t, l, false)),
        new Call("29: fewest, MOST", "tl", 6, NONE, (x, t, y, l) -> x.fewest(t, l, true)));

    public static void main(String[] args) {
        for (Call call : CALLS) {
            numbers(call);
        }
        Check.says("nothing is changed by a call that only asks, or is refused");
        for (Call call : CALLS) {
            leavesAll(call.promise, x -> askAll(x, call));
        }
        refusedCalls();
        Check.finish();
    }

    private static OneStatement told(int towns, int years, int logs) {
        OneStatement x = new OneStatement();
        int[] counts = {towns, years, logs};
        String[] texts = {TOWN, YEAR, LOG};
        for (int sort = 0; sort < 3; sort++) {
            for (int k = 0; k < counts[sort]; k++) {
                Check.due("text", Check.tell(x, sort, NONE, texts[sort]), k);
            }
        }
        return x;
    }

    /** How many there are of each sort, 0 to 2, and each number for each sort that the call takes. */
    private static void numbers(Call call) {
        Check.says(call.promise);
        for (int towns = 0; towns <= 2; towns++) {
            for (int others = 0; others <= 2; others++) {
                OneStatement x = told(towns, others, others);
                for (int t : call.takes.contains("t") ? NUMBERS : new int[] {0}) {
                    for (int o : call.takes.equals("t") ? new int[] {0} : NUMBERS) {
                        boolean town = !call.takes.contains("t") || t >= 0 && t < towns;
                        boolean other = call.takes.equals("t") || o >= 0 && o < others;
                        String name = call.promise + " " + t + " of " + towns + ", " + o + " of " + others;
                        Check.due(name, call.asked.of(x, t, o, o), town && other ? call.there : call.none);
                    }
                }
            }
        }
    }

    private static void askAll(OneStatement x, Call call) {
        for (int number : NUMBERS) {
            call.asked.of(x, number, 0, 0);
            call.asked.of(x, 1, number, number);
        }
    }

    // ---- what is left as it was

    private interface Deed {
        void on(OneStatement x);
    }

    /** Two of each sort, a FAULT, bytes on the tape, and an image that is unlike all that. */
    private static OneStatement full() {
        OneStatement x = new OneStatement();
        Check.tell(x, 0, NONE, "person 30;");
        Check.due("image", x.image(1), true);
        Check.tell(x, 0, 0, TOWN);
        Check.tell(x, 0, NONE, "person 9;worth 3 7;follows 1 2;");
        Check.tell(x, 1, NONE, YEAR);
        Check.tell(x, 1, NONE, "sell 1 0 3;");
        Check.tell(x, 2, NONE, LOG);
        Check.tell(x, 2, NONE, "asked 4;");
        Check.tell(x, 2, 1, "told 5;told 6;");
        Check.feed(x, 0, "eve;see 1 2;");
        return x;
    }

    private static List<Long> allThatIsTold(OneStatement x) {
        List<Long> all = new ArrayList<>();
        for (int sort = 0; sort < 3; sort++) {
            all.add((long) x.count(sort));
        }
        for (int k = 0; k < 2; k++) {
            all.add((long) x.fault(k));
            for (int what : new int[] {0, 10, 13, 21, 30, 31, 40, 51}) {
                all.add((long) x.town(k, what));
            }
            for (int what = 0; what < 4; what++) {
                all.add((long) x.deed(k, 0, what));
            }
            all.add((long) x.fact(k, 0, 0));
            all.add((long) x.fact(k, 0, 1));
        }
        for (int n = 33; n >= 12; n--) {
            all.add((long) x.end(n));
        }
        all.add((long) x.text(1, 1));
        all.add((long) x.deed(1, 1, 2));
        all.add(x.again(0) ? 1L : 0L);
        all.add(x.again(2) ? 1L : 0L);
        all.add(x.again(1) ? 1L : 0L);
        all.add((long) x.town(0, 30));
        all.add((long) x.count(1));
        return all;
    }

    private static void leavesAll(String name, Deed deed) {
        OneStatement x = full();
        deed.on(x);
        List<Long> all = allThatIsTold(x);
        List<Long> want = allThatIsTold(full());
        Check.due(name + " leaves " + want + ", not " + all, all.equals(want), true);
    }

    private static void refusedCalls() {
        Check.says("2: NONE, and nothing comes");
        leavesAll("feed", x -> {
            Check.feed(x, 12, " ".repeat(569));
            Check.due("feed", x.feed(-1, -1, -1, -1, -1), NONE);
            x.end(12);
        });
        Check.says("3: NONE if it has not so many, or n is below 0");
        for (int n : new int[] {MIN, -2, -1, 13, 32, 600, 601, MAX}) {
            leavesAll("end", x -> Check.due("end", x.end(n), NONE));
        }
        Check.says("5: NONE for another what");
        for (int what : new int[] {MIN, -1, 2, MAX}) {
            leavesAll("fault", x -> Check.due("fault", x.fault(what), NONE));
        }
        Check.says("30: -2 for another one");
        for (int sort : new int[] {MIN, -1, 3, MAX}) {
            leavesAll("count", x -> Check.due("count", x.count(sort), -2));
        }
        Check.says("31: false for another k");
        for (int k : new int[] {MIN, -2, -1, 3, 4, MAX}) {
            leavesAll("image", x -> Check.due("image", x.image(k), false));
        }
        Check.says("32: false if there is none such");
        for (int k : new int[] {MIN, -2, -1, 0, 2, 3, 4, MAX}) {
            leavesAll("again", x -> Check.due("again", x.again(k), false));
        }
        Check.says("15: NONE: other numbers, or for another what");
        for (int number : new int[] {MIN, -1, 0, 10, MAX}) {
            leavesAll("save", x -> Check.due("save", x.save(number, number, 0), NONE));
        }
        Check.says("4: -2: all but the tape and the FAULT is as it was");
        for (int[] args : new int[][] {{0, NONE}, {1, NONE}, {2, NONE}, {0, 2}, {1, -2}, {2, MAX}, {3, NONE}, {-1, 0}, {MIN, MIN}}) {
            textLeaves(args[0], args[1], "eve;", -2);
        }
        Check.says("4: NONE: a FAULT: all but the tape and the FAULT is as it was");
        for (int sort = 0; sort < 3; sort++) {
            textLeaves(sort, 0, "!", NONE);
            textLeaves(sort, 1, sort == 0 ? "person 31;" : sort == 1 ? "see 6 0;" : "asked 6;", NONE);
        }
    }

    /** The same FAULT and the same tape are told anew, so that all may be held against what was. */
    private static void textLeaves(int sort, int at, String text, int want) {
        leavesAll("text " + sort + " " + at, x -> {
            Check.due("text", Check.tell(x, sort, at, text), want);
            Check.due("text", Check.tell(x, 2, 1, "told 5;told 6;"), NONE);
            Check.feed(x, 0, "eve;see 1 2;");
        });
    }
}
