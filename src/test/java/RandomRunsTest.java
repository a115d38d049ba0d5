import java.util.Random;

/** Random runs of calls on new objects, texts with and without FAULTS among them, against the plain form of the document. */
final class RandomRunsTest {
    private final Random random;
    private final OneStatement x = new OneStatement();
    private final Naive y = new Naive();
    private final int run;
    private int calls = 0;

    private RandomRunsTest(int run) {
        this.run = run;
        this.random = new Random(run * 7919L + 17);
    }

    public static void main(String[] args) {
        for (int run = 0; run < 500; run++) {
            new RandomRunsTest(run).go();
        }
        Check.finish();
    }

    private void go() {
        while (calls < 512) {
            if (random.nextInt(12) == 0) {
                tellText();
            } else {
                ask();
            }
        }
    }

    private int below(int n) {
        return random.nextInt(n);
    }

    /** Mostly a number that may be, now and then the next ones, or a wild one. */
    private int about(int n) {
        int kind = below(40);
        if (kind == 0) {
            return random.nextInt();
        }
        if (kind == 1) {
            return new int[] {Integer.MIN_VALUE, Integer.MAX_VALUE, -1, -2, 99}[below(5)];
        }
        return kind < 5 ? below(n + 3) - 2 : below(n);
    }

    private int aboutOrNone(int n) {
        return below(4) == 0 ? -1 : about(n);
    }

    private void due(String call, long got, long want) {
        calls++;
        Check.due("run " + run + ": " + call, got, want);
    }

    private void tellText() {
        int sort = below(3);
        String text = sort == 0 ? townText() : sort == 1 ? yearText() : logText();
        if (below(4) == 0) {
            text = spoil(text);
        }
        int cut = below(3) == 0 ? below(text.length() + 1) : 0;
        feed(text.substring(0, cut));
        feed(text.substring(cut));
        int at = y.count(sort) < 2 && below(2) == 0 ? -1 : aboutOrNone(2);
        int as = below(30) == 0 ? about(3) : sort;
        due("text(" + as + ", " + at + ") of <" + text + ">", x.text(as, at), y.text(as, at));
        due("fault(0)", x.fault(0), y.fault(0));
        due("fault(1) of <" + text + ">", x.fault(1), y.fault(1));
        due("end(1)", x.end(1), y.end(1));
    }

    private void feed(String text) {
        int had = y.tape.length();
        for (int at = 0; at < text.length(); at += 20) {
            int[] five = new int[5];
            for (int k = 0; k < 20; k++) {
                five[k / 4] = five[k / 4] << 8 | (at + k < text.length() ? text.charAt(at + k) : 32);
            }
            due("feed", x.feed(five[0], five[1], five[2], five[3], five[4]),
                y.feed(five[0], five[1], five[2], five[3], five[4]));
        }
        int n = had + text.length();
        due("end(" + n + ")", x.end(n), y.end(n));
    }

    private String spoil(String text) {
        StringBuilder s = new StringBuilder(text);
        int times = 1 + below(2);
        for (int k = 0; k < times && s.length() > 0; k++) {
            int at = below(s.length());
            switch (below(4)) {
                case 0 -> s.deleteCharAt(at);
                case 1 -> s.setCharAt(at, "0123456789;  \nasew\u0000\u00ff\t".charAt(below(20)));
                case 2 -> s.insert(at, "0123456789;  \nasew\u0000\u00ff\t".charAt(below(20)));
                default -> s.setLength(at);
            }
        }
        return s.toString();
    }

    private String blank() {
        return below(12) == 0 ? new String[] {"  ", "\n", " \n "}[below(3)] : " ";
    }

    private void line(StringBuilder s, String word, int... numbers) {
        StringBuilder l = new StringBuilder(word);
        for (int k = 0; k < numbers.length; k++) {
            l.append(k == 0 && below(8) == 0 ? "" : blank());
            l.append(below(20) == 0 && numbers[k] < 10 ? "0" : "").append(numbers[k]);
        }
        l.append(below(15) == 0 ? " ;" : ";").append(below(20) == 0 ? blank() : "");
        if (s.length() + l.length() <= 600) {
            s.append(l);
        }
    }

    /** A number up to most, seldom a greater one. */
    private int upTo(int most) {
        return below(150) == 0 ? most + 1 + below(2) : below(most + 1);
    }

    private int another(int of, int n) {
        return below(150) == 0 || n < 2 ? of : (of + 1 + below(n - 1)) % n;
    }

    private String townText() {
        StringBuilder s = new StringBuilder();
        int people = below(80) == 0 ? 7 : below(7);
        int lines = below(12) + below(18) + below(18);
        for (int p = 0; p < people; p++) {
            line(s, "person", below(3) == 0 ? 20 + upTo(10) : upTo(9));
        }
        int ring = below(3);
        for (int k = 0; k < lines; k++) {
            int kind = below(8);
            if (kind == 0) {
                line(s, "worth", upTo(5), upTo(20));
            } else if (kind == 1 && ring > 0) {
                int f = upTo(5);
                line(s, "follows", f, another(f, 6));
            } else if (kind < 5 && people > 0) {
                line(s, "knows", upTo(people - 1), upTo(5));
            } else if (people > 1) {
                int p = upTo(people - 1);
                line(s, "hears", p, another(p, people));
            }
        }
        return s.toString();
    }

    private String yearText() {
        StringBuilder s = new StringBuilder();
        int people = y.count(0) > 0 ? Math.max(1, y.town(0, 0)) : 6;
        int lines = below(80) == 0 ? 41 : below(41);
        for (int k = 0; k < lines; k++) {
            int kind = below(10);
            int p = upTo(people - 1);
            if (kind == 0) {
                line(s, "tell", p, upTo(5));
            } else if (kind < 4) {
                line(s, "ask", p, upTo(3));
            } else if (kind < 6) {
                int f = upTo(5);
                line(s, "see", p, f);
                line(s, "tell", p, f);
            } else if (kind < 8 && people > 1) {
                line(s, "sell", p, another(p, people), below(4) == 0 ? upTo(30) : upTo(3));
            } else {
                line(s, "eve");
            }
        }
        return s.toString();
    }

    private String logText() {
        StringBuilder s = new StringBuilder();
        int lines = below(30) == 0 ? 9 : below(6) == 0 ? below(9) : below(4);
        for (int k = 0; k < lines; k++) {
            line(s, below(2) == 0 ? "asked" : "told", upTo(5));
        }
        return s.toString();
    }

    private void ask() {
        int t = below(10) == 0 ? about(2) : below(Math.max(1, y.count(0)));
        int u = below(10) == 0 ? about(2) : below(2);
        int k = aboutOrNone(7);
        int f = about(6);
        int p = about(6);
        boolean flag = random.nextBoolean();
        switch (below(28)) {
            case 0 -> { int w = 10 * below(7) + below(8); due("town(" + t + ", " + w + ")", x.town(t, w), y.town(t, w)); }
            case 1 -> { int d = aboutOrNone(41); int w = about(4); due("deed(" + u + ", " + d + ", " + w + ")", x.deed(u, d, w), y.deed(u, d, w)); }
            case 2 -> due("till(" + t + ", " + u + ")", x.till(t, u), y.till(t, u));
            case 3, 4, 5 -> askState(t, u);
            case 6 -> due("tellings(" + t + ", " + f + ", " + k + ")", x.tellings(t, f, k), y.tellings(t, f, k));
            case 7 -> due("message(" + t + ", " + f + ", " + p + ")", x.message(t, f, p), y.message(t, f, p));
            case 8 -> due("bell(" + t + ", " + k + ")", x.bell(t, k), y.bell(t, k));
            case 9 -> due("weddings(" + t + ", " + k + ")", x.weddings(t, k), y.weddings(t, k));
            case 10 -> due("code(" + t + ")", x.code(t), y.code(t));
            case 11 -> { int m = about(8); int n = about(11); int w = about(4); due("save(" + m + ", " + n + ", " + w + ")", x.save(m, n, w), y.save(m, n, w)); }
            case 12 -> { int n = about(5); due("byTurns(" + t + ", " + n + ", " + flag + ")", x.byTurns(t, n, flag), y.byTurns(t, n, flag)); }
            case 13 -> { int l = aboutOrNone(9); int w = about(2); due("fact(" + u + ", " + l + ", " + w + ")", x.fact(u, l, w), y.fact(u, l, w)); }
            case 14 -> { int w = below(2) == 0 ? about(4) : 10 + about(20); due("fits(" + t + ", " + u + ", " + w + ")", x.fits(t, u, w), y.fits(t, u, w)); }
            case 15, 16 -> askDrawn(t);
            case 17 -> { int w = about(17); due("roots(" + t + ", " + w + ")", x.roots(t, w), y.roots(t, w)); }
            case 18 -> due("chain(" + t + ", " + k + ")", x.chain(t, k), y.chain(t, k));
            case 19 -> { int w = about(17); due("reach(" + t + ", " + w + ")", x.reach(t, w), y.reach(t, w)); }
            case 20 -> due("learnt(" + t + ", " + p + ", " + f + ")", x.learnt(t, p, f), y.learnt(t, p, f));
            case 21 -> due("best(" + t + ", " + p + ", " + flag + ")", x.best(t, p, flag), y.best(t, p, flag));
            case 22 -> due("sales(" + t + ", " + k + ")", x.sales(t, k), y.sales(t, k));
            case 23 -> due("luck(" + t + ", " + p + ", " + flag + ")", x.luck(t, p, flag), y.luck(t, p, flag));
            case 24 -> { int w = about(6); due("after(" + t + ", " + u + ", " + w + ")", x.after(t, u, w), y.after(t, u, w)); }
            case 25 -> due("share(" + t + ", " + u + ", " + f + ", " + flag + ")", x.share(t, u, f, flag), y.share(t, u, f, flag));
            case 26 -> due("fewest(" + t + ", " + u + ", " + flag + ")", x.fewest(t, u, flag), y.fewest(t, u, flag));
            default -> keepOrTakeBack();
        }
    }

    private void askState(int t, int u) {
        int till = y.till(t, u);
        int n = below(3) == 0 ? about(41) : till < 1 ? 0 : till - below(Math.min(till, 3));
        int w = below(5) == 0 ? about(50) : 10 * (1 + below(4)) + below(6);
        due("state(" + t + ", " + u + ", " + n + ", " + w + ")", x.state(t, u, n, w), y.state(t, u, n, w));
    }

    private void askDrawn(int t) {
        int seed = random.nextInt();
        int n = about(61);
        int w = below(5) == 0 ? about(50) : 10 * (1 + below(4)) + below(6);
        due("drawn(" + t + ", " + seed + ", " + n + ", " + w + ")", x.drawn(t, seed, n, w), y.drawn(t, seed, n, w));
    }

    private void keepOrTakeBack() {
        int k = about(3);
        int sort = about(3);
        due("count(" + sort + ")", x.count(sort), y.count(sort));
        int what = about(2);
        due("fault(" + what + ")", x.fault(what), y.fault(what));
        if (below(2) == 0) {
            due("image(" + k + ")", x.image(k) ? 1 : 0, y.image(k) ? 1 : 0);
        } else {
            due("again(" + k + ")", x.again(k) ? 1 : 0, y.again(k) ? 1 : 0);
        }
        int n = about(60);
        due("end(" + n + ")", x.end(n), y.end(n));
    }
}
