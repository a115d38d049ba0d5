import java.math.BigInteger;
import java.util.ArrayList;
import java.util.Arrays;
import java.util.HashMap;
import java.util.LinkedHashMap;
import java.util.List;
import java.util.Map;
import java.util.TreeSet;
import java.util.regex.Matcher;
import java.util.regex.Pattern;

/** The document once more, in the plainest form: every row and set is tried. Tests hold the program against it. */
final class Naive {

    static final class T {
        final List<Integer> cows = new ArrayList<>();
        final int[] worth = {1, 1, 1, 1, 1, 1};
        final boolean[][] follows = new boolean[6][6];
        final boolean[][] knows = new boolean[6][6];
        final boolean[][] hears = new boolean[6][6];

        int people() {
            return cows.size();
        }
    }

    private static final String[][] LINES = {
        {"person c", "worth f w", "follows f g", "knows p f", "hears p q"},
        {"tell p f", "ask p f", "see p f", "sell p q c", "eve"},
        {"asked f", "told f"}
    };

    StringBuilder tape = new StringBuilder();
    int faultNumber = 0;
    int faultPlace = -1;
    List<T> towns = new ArrayList<>();
    List<List<int[]>> years = new ArrayList<>();
    List<List<int[]>> logs = new ArrayList<>();
    final Naive[] images = new Naive[3];

    // ---- the tape and its texts

    int feed(int a, int b, int c, int d, int e) {
        if (tape.length() + 20 > 600) {
            return -1;
        }
        for (int number : new int[] {a, b, c, d, e}) {
            for (byte sign : BigInteger.valueOf(number & 0xFFFFFFFFL | 1L << 32).toByteArray()) {
                tape.append((char) (sign & 255));
            }
            tape.deleteCharAt(tape.length() - 5);
        }
        return tape.length();
    }

    int end(int n) {
        if (n < 0 || n > tape.length()) {
            return -1;
        }
        tape.setLength(n);
        return n;
    }

    int text(int sort, int at) {
        String text = tape.toString();
        tape.setLength(0);
        faultNumber = 0;
        faultPlace = -1;
        int had = count(sort);
        boolean further = at == -1 && had >= 0 && had < 2;
        boolean instead = at >= 0 && at < had;
        if (!further && !instead) {
            return -2;
        }
        List<int[]> lines = new ArrayList<>();
        if (!parse(text, sort, lines)) {
            return -1;
        }
        int where = further ? had : at;
        if (sort == 0) {
            put(towns, where, townOf(lines));
        } else {
            put(sort == 1 ? years : logs, where, lines);
        }
        return where;
    }

    private static <X> void put(List<X> list, int at, X x) {
        if (at == list.size()) {
            list.add(x);
        } else {
            list.set(at, x);
        }
    }

    private boolean parse(String text, int sort, List<int[]> lines) {
        Matcher m = Pattern.compile("[a-z]+|[0-9]+|[^ \n]", Pattern.DOTALL).matcher(text);
        List<String> tokens = new ArrayList<>();
        List<Integer> places = new ArrayList<>();
        while (m.find()) {
            tokens.add(m.group());
            places.add(m.start());
        }
        tokens.add("END");
        places.add(text.length());
        int i = 0;
        Map<Integer, Integer> found = new LinkedHashMap<>();
        int people = 0;
        while (!tokens.get(i).equals("END")) {
            int lineAt = places.get(i);
            int kind = -1;
            for (int k = 0; k < LINES[sort].length; k++) {
                if (LINES[sort][k].split(" ")[0].equals(tokens.get(i))) {
                    kind = k;
                }
            }
            if (kind < 0) {
                return bad(1, places.get(i));
            }
            i++;
            String[] form = LINES[sort][kind].split(" ");
            int[] line = {kind, -1, -1, -1};
            for (int k = 1; k < form.length; k++, i++) {
                if (!tokens.get(i).matches("[0-9]{1,2}")) {
                    return bad(1, places.get(i));
                }
                line[k] = Integer.parseInt(tokens.get(i));
                int most = form[k].equals("c") ? 30 : form[k].equals("w") ? 20 : 5;
                boolean again = (form[k].equals("g") || form[k].equals("q")) && line[k] == line[k - 1];
                if (line[k] > most || again) {
                    found.putIfAbsent(places.get(i), 2);
                }
            }
            if (!tokens.get(i).equals(";")) {
                return bad(1, places.get(i));
            }
            i++;
            lines.add(line);
            if (sort == 0 && kind == 0) {
                people++;
            }
            int counted = sort == 0 ? (kind == 0 ? people : 0) : lines.size();
            if (counted > (sort == 0 ? 6 : sort == 1 ? 40 : 8)) {
                found.put(lineAt, 3);
            }
        }
        if (!found.isEmpty()) {
            int first = new TreeSet<>(found.keySet()).first();
            return bad(found.get(first), first);
        }
        for (int[] line : lines) {
            boolean missing = sort == 0 && line[0] >= 3 && line[1] >= people;
            if (missing || sort == 0 && line[0] == 4 && line[2] >= people) {
                return bad(4, text.length());
            }
        }
        return true;
    }

    private boolean bad(int number, int place) {
        faultNumber = number;
        faultPlace = place;
        return false;
    }

    private static T townOf(List<int[]> lines) {
        T t = new T();
        for (int[] line : lines) {
            switch (line[0]) {
                case 0 -> t.cows.add(line[1]);
                case 1 -> t.worth[line[1]] = line[2];
                case 2 -> t.follows[line[1]][line[2]] = true;
                case 3 -> t.knows[line[1]][line[2]] = true;
                default -> t.hears[line[1]][line[2]] = true;
            }
        }
        for (int again = 0; again < 10; again++) {
            for (int f = 0; f < 6; f++) {
                for (int g = 0; g < 6; g++) {
                    for (int h = 0; h < 6; h++) {
                        t.follows[f][h] |= t.follows[f][g] && t.follows[g][h];
                    }
                }
            }
        }
        for (int p = 0; p < 6; p++) {
            t.knows[p] = flags(close(t, bits(t.knows[p])));
        }
        return t;
    }

    // ---- small helpers

    private static int bits(boolean[] flags) {
        int sum = 0;
        for (int k = 0; k < flags.length; k++) {
            sum += flags[k] ? 1 << k : 0;
        }
        return sum;
    }

    private static boolean[] flags(int bits) {
        boolean[] flags = new boolean[6];
        for (int k = 0; k < 6; k++) {
            flags[k] = (bits & 1 << k) != 0;
        }
        return flags;
    }

    private static int close(T t, int facts) {
        int all = facts;
        for (int f = 0; f < 6; f++) {
            if ((facts & 1 << f) != 0) {
                all |= bits(t.follows[f]);
            }
        }
        return all;
    }

    private static int worth(T t, int facts) {
        int sum = 0;
        for (int f = 0; f < 6; f++) {
            sum += (facts & 1 << f) != 0 ? t.worth[f] : 0;
        }
        return sum;
    }

    private T townAt(int k) {
        return k >= 0 && k < towns.size() ? towns.get(k) : null;
    }

    private List<int[]> yearAt(int k) {
        return k >= 0 && k < years.size() ? years.get(k) : null;
    }

    private List<int[]> logAt(int k) {
        return k >= 0 && k < logs.size() ? logs.get(k) : null;
    }

    private static boolean fact(int f) {
        return f >= 0 && f <= 5;
    }

    private static boolean person(T t, int p) {
        return p >= 0 && p < t.people();
    }

    int fault(int what) {
        return what == 0 ? faultNumber : what == 1 ? faultPlace : -1;
    }

    int town(int town, int what) {
        T t = townAt(town);
        if (t == null) {
            return -1;
        }
        if (what == 0) {
            return t.people();
        }
        for (int k = 0; k < 6; k++) {
            if (what == 10 + k) {
                return t.worth[k];
            }
            if (what == 20 + k) {
                return bits(t.follows[k]);
            }
            if (k < t.people()) {
                if (what == 30 + k) {
                    return t.cows.get(k);
                }
                if (what == 40 + k) {
                    return bits(t.knows[k]);
                }
                if (what == 50 + k) {
                    return bits(t.hears[k]);
                }
            }
        }
        return -1;
    }

    int deed(int year, int k, int what) {
        return row(yearAt(year), k, what, 3);
    }

    int fact(int log, int k, int what) {
        return row(logAt(log), k, what, 1);
    }

    private static int row(List<int[]> rows, int k, int what, int last) {
        if (rows == null) {
            return -2;
        }
        if (k == -1 && what == 0) {
            return rows.size();
        }
        return k >= 0 && k < rows.size() && what >= 0 && what <= last ? rows.get(k)[what] : -2;
    }

    // ---- years

    static final class State {
        int year;
        int told;
        int lost;
        int guessed;
        int[] statements = new int[6];
        int[] cows = new int[6];
        int[] lostBy = new int[6];
        int[] toldOf = new int[6];
        boolean[][] knows = new boolean[6][];
        boolean[][] suspects = new boolean[6][6];
    }

    private static State start(T t) {
        State s = new State();
        for (int p = 0; p < t.people(); p++) {
            s.statements[p] = 1;
            s.cows[p] = t.cows.get(p);
            s.knows[p] = t.knows[p].clone();
        }
        return s;
    }

    private static void learn(T t, State s, int p, int f) {
        s.knows[p][f] = true;
        for (int g = 0; g < 6; g++) {
            s.knows[p][g] |= t.follows[f][g];
        }
        for (int g = 0; g < 6; g++) {
            s.suspects[p][g] &= !s.knows[p][g];
        }
    }

    private static boolean act(T t, State s, int[] d) {
        if (d[0] == 4) {
            s.year++;
            for (int p = 0; p < t.people(); p++) {
                s.lost += s.statements[p];
                s.lostBy[p] += s.statements[p];
                s.statements[p] = 1;
                s.suspects[p] = new boolean[6];
            }
            return true;
        }
        int p = d[1];
        if (!person(t, p)) {
            return false;
        }
        if (d[0] == 0) {
            if (!s.knows[p][d[2]] || s.statements[p] == 0) {
                return false;
            }
            s.statements[p]--;
            s.told++;
            s.toldOf[d[2]]++;
            for (int q = 0; q < t.people(); q++) {
                if (t.hears[q][p]) {
                    learn(t, s, q, d[2]);
                }
            }
        } else if (d[0] == 1) {
            for (int q = 0; q < t.people(); q++) {
                if (t.hears[q][p] && !s.knows[q][d[2]]) {
                    if (s.suspects[q][d[2]]) {
                        s.guessed++;
                        learn(t, s, q, d[2]);
                    } else {
                        s.suspects[q][d[2]] = true;
                    }
                }
            }
        } else if (d[0] == 2) {
            learn(t, s, p, d[2]);
        } else {
            int q = d[2];
            if (!person(t, q) || s.statements[p] == 0 || s.cows[q] < d[3]) {
                return false;
            }
            s.statements[p]--;
            s.statements[q]++;
            s.cows[q] -= d[3];
            s.cows[p] = Math.min(99, s.cows[p] + d[3]);
        }
        return true;
    }

    int till(int town, int year) {
        T t = townAt(town);
        List<int[]> y = yearAt(year);
        if (t == null || y == null) {
            return -1;
        }
        State s = start(t);
        int n = 0;
        while (n < y.size() && act(t, s, y.get(n))) {
            n++;
        }
        return n;
    }

    private static int tell(T t, State s, int what) {
        if (what >= 0 && what <= 2) {
            return new int[] {s.year, s.told, s.lost}[what];
        }
        for (int p = 0; p < t.people(); p++) {
            if (what == 10 + p) {
                return s.statements[p];
            }
            if (what == 20 + p) {
                return s.cows[p];
            }
            if (what == 30 + p) {
                return bits(s.knows[p]);
            }
            if (what == 40 + p) {
                return bits(s.suspects[p]);
            }
        }
        return -1;
    }

    int state(int town, int year, int n, int what) {
        if (n < 0 || n > till(town, year)) {
            return -1;
        }
        T t = townAt(town);
        State s = start(t);
        for (int k = 0; k < n; k++) {
            act(t, s, yearAt(year).get(k));
        }
        return tell(t, s, what);
    }

    int after(int town, int year, int what) {
        T t = townAt(town);
        List<int[]> y = yearAt(year);
        if (t == null || y == null || what < 0 || what > 5) {
            return -2;
        }
        State s = start(t);
        int fire = -1;
        int n = till(town, year);
        for (int k = 0; k < n; k++) {
            act(t, s, y.get(k));
            if (y.get(k)[0] == 0 && fire == -1) {
                fire = k;
            }
        }
        if (what == 0) {
            return fire;
        }
        if (what == 5) {
            return s.guessed;
        }
        int[] of = what == 1 ? s.lostBy : what == 2 ? s.cows : what == 4 ? s.toldOf : new int[6];
        int size = what == 4 ? 6 : t.people();
        for (int p = 0; what == 3 && p < size; p++) {
            of[p] = worth(t, bits(s.knows[p]));
        }
        int most = Arrays.stream(of, 0, size).max().orElse(0);
        for (int k = 0; k < size; k++) {
            if (of[k] == most && (most > 0 || what == 2 || what == 3)) {
                return k;
            }
        }
        return -1;
    }

    private int x;

    private int draw(int n) {
        x = (int) (x * 1103515245L + 12345L);
        return (int) ((x & 0xFFFFFFFFL) / 65536 % n);
    }

    int drawn(int town, int seed, int n, int what) {
        T t = townAt(town);
        if (t == null || n < 0 || n > 60) {
            return -1;
        }
        x = seed;
        State s = start(t);
        int people = t.people();
        for (int k = 0; k < n; k++) {
            int d = draw(8);
            if (d >= 6) {
                act(t, s, new int[] {4, -1, -1, -1});
            } else if (d == 5 && people > 1) {
                int p = draw(people);
                int q = (draw(people - 1) + 1 + p) % people;
                act(t, s, new int[] {3, p, q, draw(6)});
            } else if (d < 5 && people > 0) {
                int p = draw(people);
                int f = draw(6);
                act(t, s, new int[] {d < 2 ? 0 : d < 4 ? 1 : 2, p, f, -1});
            }
        }
        return tell(t, s, what);
    }

    // ---- who hears whom

    int tellings(int town, int fact, int k) {
        T t = townAt(town);
        if (t == null || !fact(fact)) {
            return -1;
        }
        List<List<Integer>> rows = new ArrayList<>();
        rows.add(new ArrayList<>());
        for (int size = 0; size <= 6; size++) {
            List<List<Integer>> longer = new ArrayList<>();
            for (List<Integer> row : rows) {
                boolean[] knows = new boolean[6];
                for (int p = 0; p < t.people(); p++) {
                    knows[p] = t.knows[p][fact];
                }
                boolean good = true;
                for (int teller : row) {
                    good &= knows[teller];
                    for (int q = 0; q < t.people(); q++) {
                        knows[q] |= t.hears[q][teller];
                    }
                }
                if (!good) {
                    continue;
                }
                if (bits(knows) == (1 << t.people()) - 1) {
                    return k == -1 ? row.size() : k >= 0 && k < row.size() ? row.get(k) : -1;
                }
                for (int p = 0; p < t.people(); p++) {
                    if (!row.contains(p)) {
                        List<Integer> more = new ArrayList<>(row);
                        more.add(p);
                        longer.add(more);
                    }
                }
            }
            rows = longer;
        }
        return -1;
    }

    int message(int town, int fact, int person) {
        T t = townAt(town);
        if (t == null || !fact(fact) || !person(t, person)) {
            return -1;
        }
        int[] steps = new int[6];
        for (int p = 0; p < 6; p++) {
            steps[p] = p < t.people() && t.knows[p][fact] ? 0 : 99;
        }
        for (int again = 0; again < 10; again++) {
            for (int p = 0; p < t.people(); p++) {
                for (int q = 0; q < t.people(); q++) {
                    if (t.hears[q][p]) {
                        steps[q] = Math.min(steps[q], steps[p] + 1);
                    }
                }
            }
        }
        return steps[person] < 99 ? steps[person] : -1;
    }

    int reach(int town, int what) {
        T t = townAt(town);
        if (t == null) {
            return -2;
        }
        int people = t.people();
        if (what >= 10 && what < 10 + people) {
            int who = 1 << what - 10;
            for (int again = 0; again < 6; again++) {
                for (int q = 0; q < people; q++) {
                    if ((bits(t.hears[q]) & who) != 0) {
                        who |= 1 << q;
                    }
                }
            }
            return who;
        }
        if (what == 0) {
            int most = -1;
            int at = -1;
            for (int p = 0; p < people; p++) {
                int heard = 0;
                for (int q = 0; q < people; q++) {
                    heard += t.hears[q][p] ? 1 : 0;
                }
                if (heard > most) {
                    most = heard;
                    at = p;
                }
            }
            return at;
        }
        if (what == 1) {
            int who = 0;
            for (int p = 0; p < people; p++) {
                who += bits(t.hears[p]) == 0 ? 1 << p : 0;
            }
            return who;
        }
        if (what == 4) {
            int couples = 0;
            for (int p = 0; p < people; p++) {
                for (int q = p + 1; q < people; q++) {
                    couples += Arrays.equals(t.knows[p], t.knows[q]) ? 1 : 0;
                }
            }
            return couples;
        }
        int choir = 0;
        int cover = (1 << people) - 1;
        int all = together(t, cover);
        for (int who = (1 << people) - 1; who >= 0; who--) {
            boolean quiet = true;
            for (int p = 0; p < people; p++) {
                for (int q = 0; q < people; q++) {
                    quiet &= (who & 1 << p) == 0 || (who & 1 << q) == 0 || !t.hears[p][q];
                }
            }
            if (quiet && Integer.bitCount(who) >= Integer.bitCount(choir)) {
                choir = who;
            }
            if (together(t, who) == all && Integer.bitCount(who) <= Integer.bitCount(cover)) {
                cover = who;
            }
        }
        return switch (what) {
            case 2 -> Integer.bitCount(choir);
            case 3 -> choir;
            case 5 -> Integer.bitCount(cover);
            case 6 -> cover;
            default -> -2;
        };
    }

    private static int together(T t, int who) {
        int facts = 0;
        for (int p = 0; p < t.people(); p++) {
            facts |= (who & 1 << p) != 0 ? bits(t.knows[p]) : 0;
        }
        return facts;
    }

    // ---- rows that are best

    private interface Value {
        /** Below 0: there is no such row. */
        int of(int[] row);
    }

    /** Of all rows of numbers 0 .. 6, the first one that is best: its value ahead of it. */
    private static int[] bestRow(int size, Value value) {
        int[] best = {-1};
        int[] row = new int[size];
        int rows = 1;
        for (int k = 0; k < size; k++) {
            rows *= 7;
        }
        for (int r = 0; r < rows; r++) {
            int rest = r;
            for (int k = size - 1; k >= 0; k--) {
                row[k] = rest % 7;
                rest /= 7;
            }
            int v = value.of(row);
            if (v > best[0]) {
                best = new int[size + 1];
                best[0] = v;
                System.arraycopy(row, 0, best, 1, size);
            }
        }
        return best;
    }

    private static int bellWorth(T t, int[] row) {
        int sum = 0;
        for (int p = 0; p < row.length; p++) {
            if (row[p] < 6 && !t.knows[p][row[p]]) {
                return -1;
            }
        }
        for (int q = 0; q < t.people(); q++) {
            int then = bits(t.knows[q]);
            for (int p = 0; p < row.length; p++) {
                then |= row[p] < 6 && t.hears[q][p] ? 1 << row[p] : 0;
            }
            sum += worth(t, close(t, then)) - worth(t, bits(t.knows[q]));
        }
        return sum;
    }

    private final Map<T, int[]> bells = new HashMap<>();
    private final Map<T, int[]> allWeddings = new HashMap<>();
    private final Map<T, int[]> allSales = new HashMap<>();

    int bell(int town, int k) {
        T t = townAt(town);
        if (t == null || k != -1 && !person(t, k)) {
            return -1;
        }
        return bells.computeIfAbsent(t, of -> bestRow(of.people(), row -> bellWorth(of, row)))[k + 1];
    }

    private static int weddingWorth(T t, int[] row) {
        int sum = 0;
        for (int p = 0; p < row.length; p++) {
            int q = row[p];
            if (q < 6 && (q >= row.length || q == p || row[q] != p)) {
                return -1;
            }
            sum += q < 6 && p < q ? Integer.bitCount(bits(t.knows[p]) | bits(t.knows[q])) : 0;
        }
        return sum;
    }

    int weddings(int town, int k) {
        T t = townAt(town);
        if (t == null || k != -1 && !person(t, k)) {
            return -1;
        }
        return allWeddings.computeIfAbsent(t, of -> bestRow(of.people(), row -> weddingWorth(of, row)))[k + 1];
    }

    private static int gained(T t, int person, int fact) {
        int[] row = new int[t.people()];
        Arrays.fill(row, 6);
        row[person] = fact;
        return bellWorth(t, row);
    }

    int learnt(int town, int person, int fact) {
        T t = townAt(town);
        return t == null || !fact(fact) || !person(t, person) ? -1 : gained(t, person, fact);
    }

    private static int bestOf(T t, int person) {
        int at = -1;
        for (int f = 5; f >= 0; f--) {
            if (t.knows[person][f] && (at == -1 || gained(t, person, f) >= gained(t, person, at))) {
                at = f;
            }
        }
        return at;
    }

    private static int bestWorth(T t, int person) {
        int at = bestOf(t, person);
        return at == -1 ? 0 : gained(t, person, at);
    }

    int best(int town, int person, boolean much) {
        T t = townAt(town);
        if (t == null || !person(t, person)) {
            return -2;
        }
        return much ? bestWorth(t, person) : bestOf(t, person);
    }

    private static int saleWorth(int[] bests, int[] row) {
        int[] deals = new int[7];
        int sum = 0;
        for (int p = 0; p < row.length; p++) {
            int q = row[p];
            if (q == 6) {
                continue;
            }
            if (q >= row.length || bests[q] <= bests[p]) {
                return -1;
            }
            deals[p]++;
            deals[q]++;
            sum += bests[q] - bests[p];
        }
        return Arrays.stream(deals).max().getAsInt() > 1 ? -1 : sum;
    }

    int sales(int town, int k) {
        T t = townAt(town);
        if (t == null || k != -1 && !person(t, k)) {
            return -1;
        }
        int[] bests = new int[t.people()];
        for (int p = 0; p < bests.length; p++) {
            bests[p] = bestWorth(t, p);
        }
        return allSales.computeIfAbsent(t, of -> bestRow(of.people(), row -> saleWorth(bests, row)))[k + 1];
    }

    /** All depths for six FACTS by Kraft's sum: at most 5 questions each. */
    int code(int town) {
        T t = townAt(town);
        if (t == null) {
            return -1;
        }
        int least = Integer.MAX_VALUE;
        for (int r = 0; r < 15625; r++) {
            int rest = r;
            int kraft = 0;
            int sum = 0;
            for (int f = 0; f < 6; f++) {
                int depth = 1 + rest % 5;
                rest /= 5;
                kraft += 32 >> depth;
                sum += depth * t.worth[f];
            }
            if (kraft <= 32) {
                least = Math.min(least, sum);
            }
        }
        return least;
    }

    long save(int m, int n, int what) {
        if (m < 1 || m > 6 || n < 1 || n > 9 || what < 0 || what > 2) {
            return -1;
        }
        BigInteger over = BigInteger.ZERO;
        BigInteger under = BigInteger.ONE;
        long first = 0;
        for (int day = 0; day < n; day++) {
            BigInteger sum = BigInteger.ZERO;
            for (int v = m; v >= 1; v--) {
                BigInteger told = under.multiply(BigInteger.valueOf(v));
                if (told.compareTo(over) >= 0) {
                    first = v;
                }
                sum = sum.add(told.max(over));
            }
            over = sum;
            under = under.multiply(BigInteger.valueOf(m));
        }
        BigInteger both = over.gcd(under);
        return what == 2 ? first : (what == 0 ? over : under).divide(both).longValue();
    }

    private static int[] turns(T t, boolean[][] knows, boolean[] used, int left) {
        if (left == 0) {
            return new int[] {0, -1};
        }
        int[] best = null;
        for (int p = 0; p < t.people(); p++) {
            for (int f = 0; f < 6; f++) {
                if (used[p] || !knows[p][f]) {
                    continue;
                }
                boolean[][] then = new boolean[t.people()][];
                int gain = 0;
                for (int q = 0; q < t.people(); q++) {
                    then[q] = t.hears[q][p] ? flags(close(t, bits(knows[q]) | 1 << f)) : knows[q];
                    gain += worth(t, bits(then[q])) - worth(t, bits(knows[q]));
                }
                used[p] = true;
                int value = gain - turns(t, then, used, left - 1)[0];
                used[p] = false;
                if (best == null || value > best[0]) {
                    best = new int[] {value, 10 * p + f};
                }
            }
        }
        int nobody = -turns(t, knows, used, left - 1)[0];
        return best == null || nobody > best[0] ? new int[] {nobody, 99} : best;
    }

    int byTurns(int town, int n, boolean first) {
        T t = townAt(town);
        if (t == null || n < 0 || n > 3) {
            return -999;
        }
        return turns(t, t.knows, new boolean[6], n)[first ? 1 : 0];
    }

    // ---- facts

    private static List<Integer> closedSets(T t) {
        List<Integer> sets = new ArrayList<>();
        for (int s = 0; s < 64; s++) {
            if (close(t, s) == s) {
                sets.add(s);
            }
        }
        return sets;
    }

    int roots(int town, int what) {
        T t = townAt(town);
        if (t == null) {
            return -1;
        }
        if (what >= 10 && what <= 15) {
            return worth(t, close(t, 1 << what - 10));
        }
        int roots = 63;
        for (int s = 63; s >= 0; s--) {
            if (close(t, s) == 63 && Integer.bitCount(s) <= Integer.bitCount(roots)) {
                roots = s;
            }
        }
        TreeSet<Integer> rings = new TreeSet<>();
        int largest = 0;
        int dearest = 5;
        int rare = 0;
        int secret = 0;
        int common = 0;
        for (int f = 5; f >= 0; f--) {
            int ring = 1 << f;
            for (int g = 0; g < 6; g++) {
                ring |= t.follows[f][g] && t.follows[g][f] ? 1 << g : 0;
            }
            rings.add(ring);
            largest = Math.max(largest, Integer.bitCount(ring));
            if (worth(t, close(t, 1 << f)) >= worth(t, close(t, 1 << dearest))) {
                dearest = f;
            }
            int who = 0;
            for (int p = 0; p < t.people(); p++) {
                who += t.knows[p][f] ? 1 : 0;
            }
            rare += who == 1 ? 1 << f : 0;
            secret += who == 0 ? 1 << f : 0;
            common += who == t.people() && who > 0 ? 1 << f : 0;
        }
        return switch (what) {
            case 0 -> Integer.bitCount(roots);
            case 1 -> roots;
            case 2 -> rings.size();
            case 3 -> largest;
            case 4 -> closedSets(t).size();
            case 5 -> dearest;
            case 6 -> rare;
            case 7 -> secret;
            case 8 -> common;
            default -> -1;
        };
    }

    int chain(int town, int k) {
        T t = townAt(town);
        if (t == null) {
            return -1;
        }
        List<List<Integer>> rows = new ArrayList<>();
        for (int f = 0; f < 6; f++) {
            rows.add(List.of(f));
        }
        List<Integer> best = rows.get(0);
        while (!rows.isEmpty()) {
            best = rows.get(0);
            List<List<Integer>> longer = new ArrayList<>();
            for (List<Integer> row : rows) {
                for (int f = 0; f < 6; f++) {
                    if (!row.contains(f) && t.follows[row.get(row.size() - 1)][f]) {
                        List<Integer> more = new ArrayList<>(row);
                        more.add(f);
                        longer.add(more);
                    }
                }
            }
            rows = longer;
        }
        return k == -1 ? best.size() : k >= 0 && k < best.size() ? best.get(k) : -1;
    }

    long luck(int town, int person, boolean under) {
        T t = townAt(town);
        if (t == null || !person(t, person)) {
            return -1;
        }
        int over = 0;
        int all = t.people() * 60;
        for (int p = 0; p < t.people(); p++) {
            int facts = Integer.bitCount(bits(t.knows[p]));
            for (int f = 0; f < 6; f++) {
                over += t.knows[p][f] && t.hears[person][p] && !t.knows[person][f] ? 60 / facts : 0;
            }
        }
        return least(over, all, under);
    }

    private static long least(int over, int all, boolean under) {
        for (int by = all; by > 1; by--) {
            if (over % by == 0 && all % by == 0) {
                over /= by;
                all /= by;
            }
        }
        return under ? all : over;
    }

    // ---- logs

    private List<Integer> fitting(int town, int log) {
        List<Integer> sets = new ArrayList<>();
        for (int s : closedSets(townAt(town))) {
            boolean good = true;
            for (int[] line : logAt(log)) {
                good &= ((s & 1 << line[1]) != 0) == (line[0] == 1);
            }
            if (good) {
                sets.add(s);
            }
        }
        return sets;
    }

    private boolean none(int town, int log) {
        return townAt(town) == null || logAt(log) == null;
    }

    private static int with(List<Integer> sets, int f) {
        return (int) sets.stream().filter(s -> (s & 1 << f) != 0).count();
    }

    int fits(int town, int log, int what) {
        if (none(town, log)) {
            return -2;
        }
        List<Integer> sets = fitting(town, log);
        if (what >= 10 && what - 10 < sets.size()) {
            return sets.get(what - 10);
        }
        if (what == 0) {
            return sets.size();
        }
        if (what == 1) {
            return sets.isEmpty() ? -1 : sets.stream().reduce(63, (a, b) -> a & b);
        }
        if (what == 2) {
            int at = -1;
            int least = 999;
            for (int f = 0; f < 6 && !sets.isEmpty(); f++) {
                int greater = Math.max(with(sets, f), sets.size() - with(sets, f));
                if (greater < least) {
                    least = greater;
                    at = f;
                }
            }
            return at;
        }
        if (what == 3) {
            int who = 0;
            for (int p = 0; p < townAt(town).people(); p++) {
                who |= sets.contains(bits(townAt(town).knows[p])) ? 1 << p : 0;
            }
            return who;
        }
        return -2;
    }

    long share(int town, int log, int fact, boolean under) {
        if (none(town, log) || !fact(fact) || fitting(town, log).isEmpty()) {
            return -1;
        }
        List<Integer> sets = fitting(town, log);
        return least(with(sets, fact), sets.size(), under);
    }

    int fewest(int town, int log, boolean most) {
        if (none(town, log)) {
            return -1;
        }
        List<Integer> sets = fitting(town, log);
        var sizes = sets.stream().mapToInt(Integer::bitCount);
        return (most ? sizes.max() : sizes.min()).orElse(-1);
    }

    // ---- all

    int count(int sort) {
        return sort == 0 ? towns.size() : sort == 1 ? years.size() : sort == 2 ? logs.size() : -2;
    }

    private void become(Naive other) {
        tape = new StringBuilder(other.tape);
        faultNumber = other.faultNumber;
        faultPlace = other.faultPlace;
        towns = new ArrayList<>(other.towns);
        years = new ArrayList<>(other.years);
        logs = new ArrayList<>(other.logs);
    }

    boolean image(int k) {
        if (k < 0 || k > 2) {
            return false;
        }
        images[k] = new Naive();
        images[k].become(this);
        return true;
    }

    boolean again(int k) {
        if (k < 0 || k > 2 || images[k] == null) {
            return false;
        }
        become(images[k]);
        return true;
    }
}
