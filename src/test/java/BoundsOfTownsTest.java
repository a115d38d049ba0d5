/** TOWNS as told (Terms 3 and 6, promises 6, 10 to 16, 20 to 26): each sentence that names a bound, on both sides of it. */
final class BoundsOfTownsTest {
    private static final int NONE = OneStatement.NONE;
    private static final int MIN = Integer.MIN_VALUE;
    private static final int MAX = Integer.MAX_VALUE;
    private static final String SIX = "person 0;".repeat(6);
    /** Each FACT FOLLOWS from the one ahead. */
    private static final String STAIRS = "follows 0 1;follows 1 2;follows 2 3;follows 3 4;follows 4 5;";
    /** Six in a line: each HEARS the one ahead. */
    private static final String LINE = SIX + "hears 1 0;hears 2 1;hears 3 2;hears 4 3;hears 5 4;";
    private static final int[] BEYOND_FACTS = {MIN, -2, -1, 6, 7, 32, 64, MAX};

    private static OneStatement x;

    public static void main(String[] args) {
        townWhat();
        follows();
        tellings();
        message();
        bell();
        bellHow();
        weddings();
        code();
        save();
        saveLeast();
        byTurns();
        byTurnsHow();
        roots();
        rings();
        wholes();
        rare();
        chain();
        reachWhat();
        reach();
        choirAndCover();
        learnt();
        best();
        sales();
        luck();
        Check.finish();
    }

    private static void due(String call, long got, long want) {
        Check.due(call, got, want);
    }

    private static void tell(String town) {
        x = Check.with(town, null, null);
    }

    // ---- promise 6

    private static void townWhat() {
        Check.says("6: 10 + f, 20 + f .. of a FACT, 30 + p, 40 + p, 50 + p .. of a PERSON (NONE: there is none such, another what)");
        for (int people = 0; people <= 6; people++) {
            tell("person 9;".repeat(people));
            for (int what = -30; what <= 90; what++) {
                int group = what / 10;
                int k = what % 10;
                boolean fact = what >= 10 && group < 3 && k < 6;
                boolean person = what >= 30 && group < 6 && k < people;
                int want = what == 0 ? people : !fact && !person ? NONE : group == 1 ? 1 : group == 3 ? 9 : 0;
                due("what " + what + " of " + people, x.town(0, what), want);
            }
            for (int what : new int[] {MIN, MIN + 18, -100, 100, 110, 1010, MAX, MAX - 7}) {
                due("what " + what, x.town(0, what), NONE);
            }
        }
        Check.says("6: the last PERSON and the last FACT are there");
        tell(LINE + "worth 5 20;follows 4 5;knows 5 5;");
        due("WORTH", x.town(0, 15), 20);
        due("FOLLOWS", x.town(0, 24), 32);
        due("COWS", x.town(0, 35), 0);
        due("KNOWS", x.town(0, 45), 32);
        due("HEARS", x.town(0, 55), 16);
    }

    private static void follows() {
        Check.says("6: all that FOLLOWS from it (bits; not itself, if that does not)");
        tell("");
        facts(20, 0, 0, 0, 0, 0, 0);
        tell(STAIRS);
        facts(20, 62, 60, 56, 48, 32, 0);
        tell("follows 4 5;follows 3 4;follows 2 3;follows 1 2;follows 0 1;");
        facts(20, 62, 60, 56, 48, 32, 0);
        tell("follows 5 4;follows 4 3;follows 3 2;follows 2 1;follows 1 0;");
        facts(20, 0, 1, 3, 7, 15, 31);
        tell("follows 0 1;follows 1 0;follows 2 0;");
        facts(20, 3, 3, 3, 0, 0, 0);
        tell(STAIRS + "follows 5 0;");
        facts(20, 63, 63, 63, 63, 63, 63);
        tell("follows 3 5;follows 5 1;follows 1 4;");
        facts(20, 0, 16, 0, 50, 0, 18);
        Check.says("Terms: Whoever KNOWS a FACT KNOWS all that FOLLOWS from it, always");
        tell(SIX + "knows 0 0;knows 1 1;knows 4 4;knows 5 5;" + STAIRS);
        people(40, 63, 62, 0, 0, 48, 32);
        tell(SIX + STAIRS + "follows 5 0;knows 3 5;");
        people(40, 0, 0, 0, 63, 0, 0);
    }

    private static void facts(int what, int... dues) {
        for (int f = 0; f < dues.length; f++) {
            due("town " + (what + f), x.town(0, what + f), dues[f]);
        }
    }

    private static void people(int what, int... dues) {
        facts(what, dues);
    }

    // ---- promises 10 and 11

    private static void tellers(int fact, int... dues) {
        due("how many of " + fact, x.tellings(0, fact, NONE), dues.length);
        for (int k = 0; k < dues.length; k++) {
            due("the " + k + "-th of " + fact, x.tellings(0, fact, k), dues[k]);
        }
        for (int k : new int[] {MIN, -2, dues.length, dues.length + 1, 32, MAX}) {
            due("not so many: " + k, x.tellings(0, fact, k), NONE);
        }
    }

    private static void byNone(int fact) {
        for (int k = -2; k < 7; k++) {
            due("by none: " + fact + " " + k, x.tellings(0, fact, k), NONE);
        }
    }

    private static void tellings() {
        Check.says("10: how many (k NONE), or by whom the k-th is; NONE: not so many");
        tell(LINE + "knows 0 5;knows 1 5;knows 0 4;");
        tellers(4, 0, 1, 2, 3, 4);
        tellers(5, 1, 2, 3, 4);
        Check.says("10: none is needed: all KNOW it");
        tell("person 0;person 0;knows 0 0;knows 1 0;knows 0 1;hears 1 0;");
        tellers(0);
        tellers(1, 0);
        tell("person 0;knows 0 3;");
        tellers(3);
        tell("");
        tellers(0);
        Check.says("10: NONE: by none");
        tell(LINE + "knows 1 5;knows 5 4;");
        byNone(5);
        byNone(4);
        byNone(0);
        tell("person 0;person 0;knows 0 0;");
        byNone(0);
        tell("person 0;person 0;person 0;knows 0 0;hears 1 2;hears 2 1;");
        byNone(0);
        tell("person 0;person 0;person 0;knows 2 0;hears 0 1;hears 1 0;");
        byNone(0);
        tell("person 0;");
        byNone(0);
        Check.says("10: NONE: there is none such (a FACT)");
        tell(SIX + "knows 0 0;knows 0 5;hears 1 0;hears 2 0;hears 3 0;hears 4 0;hears 5 0;");
        tellers(0, 0);
        tellers(5, 0);
        for (int fact : BEYOND_FACTS) {
            byNone(fact);
        }
        Check.says("Terms: TELLINGS: the fewest, by whom, the first such row by numbers");
        tell(SIX + "knows 0 0;knows 1 0;hears 2 0;hears 3 1;hears 4 2;hears 5 3;hears 4 3;");
        // 0 tells 2, 1 tells 3, then 3 tells both 4 and 5
        tellers(0, 0, 1, 3);
        tell("person 0;person 0;person 0;person 0;knows 3 0;hears 1 3;hears 2 3;hears 0 1;hears 0 2;hears 0 3;");
        tellers(0, 3);
        tell("person 0;person 0;person 0;person 0;knows 3 0;hears 1 3;hears 2 3;hears 0 1;hears 0 2;");
        tellers(0, 3, 1);
        Check.says("Terms: TELLINGS: each by one who KNOWS it then (by what FOLLOWS, too)");
        tell("person 0;person 0;knows 1 4;follows 4 0;hears 0 1;");
        tellers(0, 1);
        tellers(4, 1);
    }

    private static void message() {
        Check.says("11: the fewest so that he KNOWS it; NONE: by none");
        tell(LINE + "knows 0 5;knows 1 5;knows 0 4;knows 5 3;");
        for (int p = 0; p < 6; p++) {
            due("FACT 4 to " + p, x.message(0, 4, p), p);
            due("FACT 5 to " + p, x.message(0, 5, p), Math.max(0, p - 1));
            due("FACT 3 to " + p, x.message(0, 3, p), p == 5 ? 0 : NONE);
            due("nobody KNOWS it", x.message(0, 0, p), NONE);
        }
        Check.says("11: NONE: there is none such (a FACT)");
        tell(LINE + STAIRS + "knows 0 0;");
        for (int fact = 0; fact < 6; fact++) {
            due("FACT " + fact, x.message(0, fact, 5), 5);
        }
        for (int fact : BEYOND_FACTS) {
            due("FACT " + fact, x.message(0, fact, 0), NONE);
            due("FACT " + fact, x.message(0, fact, 5), NONE);
        }
        Check.says("11: NONE: there is none such (a PERSON)");
        for (int people = 0; people <= 6; people++) {
            tell("person 0;".repeat(people) + (people > 0 ? "knows " + (people - 1) + " 0;" : ""));
            for (int p : new int[] {MIN, -2, -1, people, people + 1, 32 + people, MAX}) {
                due("PERSON " + p, x.message(0, 0, p), NONE);
            }
            if (people > 0) {
                due("the last PERSON", x.message(0, 0, people - 1), 0);
            }
        }
        Check.says("Terms: MESSAGE of two ways the fewest");
        tell(LINE + "hears 4 0;knows 0 0;");
        due("by the short way", x.message(0, 0, 4), 1);
        due("by the short way", x.message(0, 0, 5), 2);
        due("by the other", x.message(0, 0, 3), 3);
    }

    // ---- promises 12 to 14

    private static void row(String name, int much, int... dues) {
        due(name, of(name, NONE), much);
        for (int k = 0; k < dues.length; k++) {
            due(name + " " + k, of(name, k), dues[k]);
        }
        for (int k : new int[] {MIN, -2, dues.length, dues.length + 1, 32, MAX}) {
            due(name + " " + k + " of " + dues.length, of(name, k), NONE);
        }
    }

    private static int of(String name, int k) {
        return name.equals("bell") ? x.bell(0, k) : name.equals("sales") ? x.sales(0, k) : x.weddings(0, k);
    }

    private static void bell() {
        Check.says("12: how much (k NONE), or what PERSON k tells. NONE: there is none such (a PERSON)");
        tell("");
        row("bell", 0);
        tell("person 0;");
        row("bell", 0, 6);
        tell("person 0;knows 0 5;");
        row("bell", 0, 5);
        tell(LINE + "knows 0 5;");
        row("bell", 1, 5, 6, 6, 6, 6, 6);
        Check.says("Terms: BELL (6: nothing), of several the first row by numbers");
        tell("person 0;person 0;knows 0 3;knows 0 2;knows 1 4;knows 1 5;");
        row("bell", 0, 2, 4);
        tell("person 0;person 0;knows 0 3;knows 0 2;hears 1 0;");
        row("bell", 1, 2, 6);
        tell("person 0;person 0;knows 0 3;knows 0 2;hears 1 0;worth 3 2;");
        row("bell", 2, 3, 6);
        tell("person 0;person 0;knows 0 3;knows 0 2;hears 1 0;worth 3 0;worth 2 0;");
        row("bell", 0, 2, 6);
        Check.says("Terms: BELL, the most that can be");
        tell("worth 0 20;worth 1 20;worth 2 20;worth 3 20;worth 4 20;worth 5 20;" + STAIRS + SIX + "knows 0 0;hears 1 0;hears 2 0;"
            + "hears 3 0;hears 4 0;hears 5 0;");
        row("bell", 600, 0, 6, 6, 6, 6, 6);
        tell("person 0;person 0;worth 0 0;knows 0 0;hears 1 0;");
        row("bell", 0, 0, 6);
    }

    private static void bellHow() {
        Check.says("Terms: BELL: FACTS that each of the PEOPLE then KNOWS, and did not");
        tell("person 0;person 0;person 0;knows 0 0;knows 1 0;hears 2 0;hears 2 1;");
        row("bell", 1, 0, 0, 6);
        tell("person 0;person 0;person 0;knows 0 0;knows 0 1;knows 1 0;knows 1 1;hears 2 0;hears 2 1;");
        row("bell", 2, 0, 1, 6);
        tell("person 0;person 0;person 0;knows 0 0;knows 1 1;follows 0 1;hears 2 0;hears 2 1;");
        row("bell", 2, 0, 1, 6);
        tell("person 0;person 0;knows 0 0;knows 1 0;hears 1 0;hears 0 1;");
        row("bell", 0, 0, 0);
        tell("person 0;person 0;person 0;worth 1 3;worth 2 5;knows 0 0;knows 0 1;knows 2 2;hears 1 0;hears 1 2;");
        row("bell", 8, 1, 6, 2);
        tell(SIX + "worth 1 3;worth 2 5;knows 0 0;knows 0 1;knows 5 2;knows 4 3;hears 1 0;hears 1 5;hears 1 4;hears 2 5;");
        row("bell", 14, 1, 6, 6, 6, 3, 2);
        Check.says("Terms: BELL: all at once (nobody tells what he hears)");
        tell(LINE + "knows 0 0;worth 0 20;");
        row("bell", 20, 0, 6, 6, 6, 6, 6);
    }

    private static void weddings() {
        Check.says("13: how many (k NONE), or whom PERSON k weds. NONE: there is none such (a PERSON)");
        tell("");
        row("weddings", 0);
        tell("person 0;knows 0 0;");
        row("weddings", 0, 6);
        tell("person 0;person 0;");
        row("weddings", 0, 1, 0);
        tell("person 0;person 0;knows 0 0;knows 1 0;");
        row("weddings", 1, 1, 0);
        tell("person 0;person 0;person 0;knows 1 0;knows 2 1;");
        row("weddings", 2, 6, 2, 1);
        tell("person 0;person 0;person 0;knows 0 0;");
        row("weddings", 1, 1, 0, 6);
        Check.says("Terms: WEDDINGS (6: nobody), of several the first row by numbers");
        tell(SIX);
        row("weddings", 0, 1, 0, 3, 2, 5, 4);
        tell("person 0;".repeat(5));
        row("weddings", 0, 1, 0, 3, 2, 6);
        tell("person 0;".repeat(5) + "knows 4 0;");
        row("weddings", 1, 1, 0, 4, 6, 2);
        tell(SIX + "knows 0 0;knows 1 0;knows 2 1;knows 3 1;knows 4 2;knows 5 2;");
        row("weddings", 6, 2, 4, 0, 5, 1, 3);
        Check.says("Terms: WEDDINGS, the most that can be");
        tell(SIX + STAIRS + "knows 0 0;knows 1 0;knows 2 0;knows 3 0;knows 4 0;knows 5 0;");
        row("weddings", 18, 1, 0, 3, 2, 5, 4);
    }

    private static void code(int want, int... worth) {
        StringBuilder town = new StringBuilder();
        for (int f = 0; f < worth.length; f++) {
            town.append("worth ").append(f).append(' ').append(worth[f]).append(';');
        }
        tell(town.toString());
        due("CODE of " + town, x.code(0), want);
    }

    private static void code() {
        Check.says("14: CODE, of WORTHS at their bounds");
        code(16);
        code(0, 0, 0, 0, 0, 0, 0);
        code(320, 20, 20, 20, 20, 20, 20);
        code(20, 20, 0, 0, 0, 0, 0);
        code(20, 0, 0, 0, 0, 0, 20);
        code(60, 20, 0, 0, 20, 0, 0);
        code(62, 16, 8, 4, 2, 1, 1);
        code(62, 1, 1, 2, 4, 8, 16);
    }

    // ---- promise 15

    private static void save() {
        Check.says("15: SAVE of m, 1 .. 6, n, 1 .. 9; NONE: other numbers");
        x = new OneStatement();
        for (int m = -1; m <= 8; m++) {
            for (int n = -1; n <= 11; n++) {
                boolean is = m >= 1 && m <= 6 && n >= 1 && n <= 9;
                boolean answers = x.save(m, n, 0) != NONE && x.save(m, n, 1) != NONE && x.save(m, n, 2) != NONE;
                boolean none = x.save(m, n, 0) == NONE && x.save(m, n, 1) == NONE && x.save(m, n, 2) == NONE;
                Check.due("save " + m + " " + n, answers, is);
                Check.due("save " + m + " " + n, none, !is);
            }
            x = new OneStatement();
        }
        for (int wild : new int[] {MIN, MAX}) {
            due("m " + wild, x.save(wild, 1, 0), NONE);
            due("n " + wild, x.save(1, wild, 0), NONE);
        }
        Check.says("15: NONE for another what");
        for (int what : new int[] {MIN, -2, -1, 3, 4, MAX}) {
            due("what " + what, x.save(6, 9, what), NONE);
        }
        Check.says("15: SAVE, what 0, 1: N, D: a fraction in least terms");
        for (int n = 1; n <= 9; n++) {
            fraction(1, n, 1, 1);
            // of two: all but one in 2 to the n-th rows of days have a 2
            fraction(2, n, (2L << n) - 1, 1L << n);
        }
        fraction(3, 1, 2, 1);
        fraction(3, 2, 7, 3);
        fraction(4, 1, 5, 2);
        fraction(4, 2, 3, 1);
        fraction(5, 1, 3, 1);
        fraction(5, 2, 18, 5);
        fraction(6, 1, 7, 2);
        fraction(6, 2, 17, 4);
        fraction(6, 3, 14, 3);
        fraction(6, 4, 89, 18);
        fraction(3, 9, 19427, 6561);
        fraction(4, 9, 63349, 16384);
        fraction(5, 9, 1847653, 390625);
        fraction(6, 8, 64109, 11664);
        fraction(6, 9, 390529, 69984);
    }

    private static void fraction(int m, int n, long over, long under) {
        due("N of " + m + " " + n, x.save(m, n, 0), over);
        due("D of " + m + " " + n, x.save(m, n, 1), under);
    }

    private static void saveLeast() {
        Check.says("15: the least worth that one tells on the first day (if it is as good: one tells)");
        x = new OneStatement();
        // on the last day anything is told; with two days left what is worth the mean of one day, just so much or more
        int[] two = {1, 2, 2, 3, 3, 4};
        for (int m = 1; m <= 6; m++) {
            due("the last day, " + m, x.save(m, 1, 2), 1);
            due("two days, " + m, x.save(m, 2, 2), two[m - 1]);
        }
        due("three days, 4: just as good as 3", x.save(4, 3, 2), 3);
        due("three days, 3: better than 7/3", x.save(3, 3, 2), 3);
        due("three days, 6: better than 17/4", x.save(6, 3, 2), 5);
        due("four days, 6: better than 14/3", x.save(6, 4, 2), 5);
        due("five days, 6: better than 89/18", x.save(6, 5, 2), 5);
        due("nine days, 6", x.save(6, 9, 2), 6);
        due("nine days, 1", x.save(1, 9, 2), 1);
    }

    // ---- promise 16

    private static void turns(int n, int lead, int first) {
        due("TURNS of " + n, x.byTurns(0, n, false), lead);
        due("the first of TURNS of " + n, x.byTurns(0, n, true), first);
    }

    private static void byTurns() {
        Check.says("16: TURNS of n, 0 .. 3; -999: another n");
        tell("person 0;person 0;knows 0 0;hears 1 0;");
        for (int n : new int[] {MIN, -2, -1, 4, 5, MAX}) {
            turns(n, -999, -999);
        }
        turns(0, 0, NONE);
        turns(1, 1, 0);
        Check.says("16: (NONE: n is 0)");
        tell("");
        turns(0, 0, NONE);
        turns(1, 0, 99);
        turns(2, 0, 99);
        turns(3, 0, 99);
        Check.says("Terms: TURNS: what the first does first, the least that is best (99 nobody)");
        tell(SIX);
        turns(1, 0, 99);
        tell(SIX + "knows 5 5;");
        turns(1, 0, 55);
        turns(2, 0, 55);
        turns(3, 0, 55);
        tell(SIX + "knows 5 5;knows 5 4;knows 4 5;");
        turns(1, 0, 45);
        tell(SIX + "knows 5 5;knows 5 4;hears 0 5;");
        turns(1, 1, 54);
        tell(SIX + "knows 5 5;knows 5 4;hears 0 5;worth 5 2;");
        turns(1, 2, 55);
        tell(SIX + "knows 5 5;knows 5 4;hears 0 5;worth 5 0;worth 4 0;");
        turns(1, 0, 54);
    }

    private static void byTurnsHow() {
        Check.says("Terms: TURNS: (no PERSON twice)");
        tell("person 0;person 0;knows 0 0;knows 0 1;hears 1 0;");
        turns(1, 1, 0);
        turns(2, 1, 0);
        turns(3, 1, 0);
        tell("person 0;person 0;knows 0 0;knows 0 1;hears 1 0;worth 1 2;");
        turns(1, 2, 1);
        turns(2, 2, 1);
        turns(3, 2, 1);
        tell("person 0;person 0;knows 0 0;knows 0 5;hears 1 0;worth 0 2;");
        turns(1, 2, 0);
        turns(2, 2, 0);
        turns(3, 2, 0);
        Check.says("Terms: TURNS: or nobody");
        // if 0 tells 1 (1), the other one has 1 tell four (4); if nobody tells, the other one has 0 tell (1)
        tell(SIX + "knows 0 0;hears 1 0;hears 2 1;hears 3 1;hears 4 1;hears 5 1;");
        turns(1, 1, 0);
        turns(2, -1, 99);
        // the other one, too, has nobody tell, or else the first has 1 tell four
        turns(3, 1, 99);
        Check.says("Terms: TURNS: n times in all, by turns");
        tell("person 0;person 0;person 0;worth 0 9;worth 1 5;worth 2 2;knows 0 0;knows 1 1;knows 2 2;hears 0 1;hears 1 2;hears 2 0;");
        turns(1, 9, 0);
        // 0 tells 2 FACT 0 (9), then 2 tells it 1 (9), then 1 tells 0 FACT 1 (5)
        turns(2, 0, 0);
        turns(3, 5, 0);
    }

    // ---- promises 20 and 21

    private static void roots() {
        Check.says("20: 10 + f: WHOLE of a FACT. NONE: there is none such, or for another what");
        tell("");
        for (int what : new int[] {MIN, -2, -1, 9, 16, 17, 19, 20, MAX}) {
            due("what " + what, x.roots(0, what), NONE);
        }
        for (int what = 10; what <= 15; what++) {
            due("what " + what, x.roots(0, what), 1);
        }
        Check.says("20: ROOTS, how many, which (bits), of several the least");
        rootsAre("", 63);
        rootsAre(STAIRS, 1);
        rootsAre(STAIRS + "follows 5 0;", 1);
        rootsAre("follows 5 4;follows 5 3;follows 5 2;follows 5 1;follows 5 0;", 32);
        rootsAre("follows 4 5;follows 5 4;", 31);
        rootsAre("follows 4 5;follows 5 4;follows 3 4;", 15);
        rootsAre("follows 0 5;follows 5 0;follows 1 4;follows 4 1;follows 2 3;follows 3 2;", 7);
    }

    private static void rootsAre(String town, int which) {
        tell(town);
        due("ROOTS, which, of <" + town + ">", x.roots(0, 1), which);
        due("ROOTS, how many, of <" + town + ">", x.roots(0, 0), Integer.bitCount(which));
    }

    private static void rings() {
        Check.says("20: RINGS (one alone, too), the largest; CLOSED");
        ringsAre("", 6, 1, 64);
        ringsAre(STAIRS, 6, 1, 7);
        ringsAre("follows 0 1;follows 1 0;", 5, 2, 32);
        ringsAre("follows 0 1;follows 1 0;follows 2 3;follows 3 4;follows 4 2;", 3, 3, 8);
        ringsAre("follows 0 5;follows 5 0;follows 1 4;follows 4 1;follows 2 3;follows 3 2;", 3, 2, 8);
        ringsAre(STAIRS + "follows 4 0;", 2, 5, 3);
        ringsAre(STAIRS + "follows 5 0;", 1, 6, 2);
    }

    private static void ringsAre(String town, int rings, int largest, int closed) {
        tell(town);
        due("RINGS of <" + town + ">", x.roots(0, 2), rings);
        due("the largest of <" + town + ">", x.roots(0, 3), largest);
        due("CLOSED of <" + town + ">", x.roots(0, 4), closed);
    }

    private static void wholes() {
        Check.says("20: WHOLE; DEAREST: the FACT of which that is most, of several the least");
        wholesAre("", 0, 1, 1, 1, 1, 1, 1);
        wholesAre(STAIRS, 0, 6, 5, 4, 3, 2, 1);
        wholesAre(STAIRS + "worth 0 0;", 0, 5, 5, 4, 3, 2, 1);
        wholesAre("follows 5 4;follows 3 4;", 3, 1, 1, 1, 2, 1, 2);
        wholesAre("worth 0 0;worth 5 20;follows 4 5;worth 4 0;", 4, 0, 1, 1, 1, 20, 20);
        wholesAre("worth 0 0;worth 1 0;worth 2 0;worth 3 0;worth 4 0;worth 5 0;", 0, 0, 0, 0, 0, 0, 0);
        wholesAre("worth 0 20;worth 1 20;worth 2 20;worth 3 20;worth 4 20;worth 5 20;" + STAIRS + "follows 5 0;",
            0, 120, 120, 120, 120, 120, 120);
        for (int f = 0; f < 6; f++) {
            int[] dues = {1, 1, 1, 1, 1, 1};
            dues[f] = 2;
            wholesAre("worth " + f + " 2;", f, dues);
        }
    }

    private static void wholesAre(String town, int dearest, int... dues) {
        tell(town);
        due("DEAREST of <" + town + ">", x.roots(0, 5), dearest);
        for (int f = 0; f < 6; f++) {
            due("WHOLE of " + f + " of <" + town + ">", x.roots(0, 10 + f), dues[f]);
        }
    }

    private static void rare() {
        Check.says("20: RARE, SECRET, COMMON: FACTS that just one of the PEOPLE KNOWS, nobody, all");
        rareAre("person 0;person 0;person 0;knows 0 1;knows 0 2;knows 1 2;knows 0 3;knows 1 3;knows 2 3;", 2, 49, 8);
        rareAre("person 0;person 0;person 0;", 0, 63, 0);
        rareAre("person 0;knows 0 4;", 16, 47, 16);
        rareAre(SIX + STAIRS + "knows 0 0;knows 1 0;knows 2 0;knows 3 0;knows 4 0;knows 5 0;", 0, 0, 63);
        rareAre(SIX + STAIRS + "knows 0 0;knows 1 0;knows 2 0;knows 3 0;knows 4 0;knows 5 1;", 0, 0, 62);
        Check.says("20: (of none of the PEOPLE: COMMON none)");
        rareAre("", 0, 63, 0);
    }

    private static void rareAre(String town, int rare, int secret, int common) {
        tell(town);
        due("RARE of <" + town + ">", x.roots(0, 6), rare);
        due("SECRET of <" + town + ">", x.roots(0, 7), secret);
        due("COMMON of <" + town + ">", x.roots(0, 8), common);
    }

    private static void chainIs(String town, int... dues) {
        tell(town);
        due("CHAIN of <" + town + ">", x.chain(0, NONE), dues.length);
        for (int k = 0; k < dues.length; k++) {
            due("CHAIN " + k + " of <" + town + ">", x.chain(0, k), dues[k]);
        }
        for (int k : new int[] {MIN, -2, dues.length, dues.length + 1, 6, 7, MAX}) {
            due("CHAIN " + k + " of <" + town + ">", x.chain(0, k), NONE);
        }
    }

    private static void chain() {
        Check.says("21: CHAIN: how many (k NONE), or the k-th. NONE: not so many");
        chainIs("", 0);
        chainIs("follows 5 4;", 5, 4);
        chainIs(STAIRS, 0, 1, 2, 3, 4, 5);
        chainIs("follows 5 4;follows 4 3;follows 3 2;follows 2 1;follows 1 0;", 5, 4, 3, 2, 1, 0);
        chainIs(STAIRS + "follows 5 0;", 0, 1, 2, 3, 4, 5);
        Check.says("Terms: CHAIN: the first row by numbers, of unlike FACTS");
        chainIs("follows 4 0;follows 3 0;follows 4 1;", 3, 0);
        chainIs("follows 2 3;follows 3 2;", 2, 3);
        chainIs("follows 0 1;follows 1 0;follows 1 2;follows 2 4;follows 1 3;follows 3 5;", 0, 1, 2, 4);
        chainIs("follows 5 0;follows 0 5;follows 5 3;follows 0 2;follows 2 1;follows 3 1;", 0, 5, 2, 1);
    }

    // ---- promise 22

    private static void reachWhat() {
        Check.says("22: 10 + p: REACH of a PERSON. -2: there is none such, or for another what");
        for (int people = 0; people <= 6; people++) {
            tell("person 0;".repeat(people));
            for (int what = -5; what <= 30; what++) {
                boolean person = what >= 10 && what < 10 + people;
                boolean is = what >= 0 && what <= 6 || person;
                boolean such = x.reach(0, what) != -2;
                Check.due("what " + what + " of " + people, such, is);
                if (person) {
                    due("himself alone", x.reach(0, what), 1 << what - 10);
                }
            }
            for (int what : new int[] {MIN, MIN + 10, 42, MAX}) {
                due("what " + what, x.reach(0, what), -2);
            }
        }
        Check.says("22: LOUDEST (NONE: no PEOPLE), of several the least");
        reaches("", 0, NONE);
        reaches("person 0;", 0, 0);
        reaches(SIX, 0, 0);
        reaches(SIX + "hears 0 5;", 0, 5);
        reaches(SIX + "hears 0 5;hears 5 4;", 0, 4);
        reaches(SIX + "hears 0 5;hears 5 4;hears 1 5;", 0, 5);
        Check.says("22: DEAF: PEOPLE (bits) who HEAR nobody");
        reaches("", 1, 0);
        reaches("person 0;", 1, 1);
        reaches(SIX, 1, 63);
        reaches(LINE, 1, 1);
        reaches(LINE + "hears 0 5;", 1, 0);
    }

    private static void reaches(String town, int what, int want) {
        tell(town);
        due("reach " + what + " of <" + town + ">", x.reach(0, what), want);
    }

    private static void reach() {
        Check.says("Terms: REACH: one behind the other, from him on (himself, too)");
        int[] line = {63, 62, 60, 56, 48, 32};
        tell(LINE);
        for (int p = 0; p < 6; p++) {
            due("REACH of " + p, x.reach(0, 10 + p), line[p]);
        }
        tell(LINE + "hears 0 5;");
        for (int p = 0; p < 6; p++) {
            due("REACH of " + p + " in a ring", x.reach(0, 10 + p), 63);
        }
        tell(SIX + "hears 0 1;hears 1 2;hears 2 3;hears 3 4;hears 4 5;");
        for (int p = 0; p < 6; p++) {
            due("REACH of " + p + " down the line", x.reach(0, 10 + p), (2 << p) - 1);
        }
    }

    private static void choirAndCover() {
        Check.says("22: CHOIR, how many, who (bits), of several the least");
        choir("", 0);
        choir("person 0;", 1);
        choir(SIX, 63);
        choir("person 0;person 0;hears 0 1;", 1);
        choir("person 0;person 0;hears 1 0;", 1);
        choir(LINE, 21);
        choir(SIX + "hears 0 1;hears 0 2;hears 0 3;hears 0 4;hears 0 5;", 62);
        StringBuilder all = new StringBuilder(SIX);
        for (int p = 0; p < 6; p++) {
            for (int q = 0; q < p; q++) {
                all.append("hears ").append(p).append(' ').append(q).append(';');
            }
        }
        choir(all.toString(), 1);
        Check.says("22: TWINS: couples of PEOPLE who KNOW just the same");
        reaches("", 4, 0);
        reaches("person 0;", 4, 0);
        reaches("person 0;person 0;", 4, 1);
        reaches("person 0;person 0;knows 1 0;", 4, 0);
        reaches("person 0;person 0;knows 1 0;knows 1 1;knows 0 0;", 4, 0);
        reaches(SIX, 4, 15);
        reaches(SIX + "knows 0 0;knows 1 0;knows 2 1;", 4, 4);
        Check.says("22: COVER, how many, who (bits), of several the least");
        cover("", 0);
        cover(SIX, 0);
        cover(SIX + "knows 5 5;", 32);
        cover(SIX + "knows 5 5;knows 4 5;", 16);
        cover(SIX + "knows 0 0;knows 1 1;knows 2 2;knows 3 3;knows 4 4;knows 5 5;", 63);
        cover(SIX + "knows 0 0;knows 1 1;knows 2 0;knows 2 1;", 4);
        cover(SIX + "knows 0 0;knows 1 1;knows 2 2;knows 3 0;knows 3 1;", 12);
        cover(SIX + "knows 0 0;knows 1 1;knows 4 0;knows 5 1;", 3);
    }

    private static void choir(String town, int who) {
        reaches(town, 3, who);
        reaches(town, 2, Integer.bitCount(who));
    }

    private static void cover(String town, int who) {
        reaches(town, 6, who);
        reaches(town, 5, Integer.bitCount(who));
    }

    // ---- promises 23 to 26

    private static void learnt() {
        Check.says("23: NONE: he does not KNOW it");
        tell(LINE + STAIRS + "knows 0 3;knows 5 0;");
        int[] dues = {NONE, NONE, NONE, 3, 2, 1};
        for (int f = 0; f < 6; f++) {
            due("LEARNT of 0, " + f, x.learnt(0, 0, f), dues[f]);
            due("LEARNT of 1, " + f, x.learnt(0, 1, f), NONE);
            due("LEARNT of 5, whom nobody HEARS, " + f, x.learnt(0, 5, f), 0);
        }
        Check.says("23: NONE: there is none such (a FACT)");
        for (int f : BEYOND_FACTS) {
            due("LEARNT of 0, " + f, x.learnt(0, 0, f), NONE);
            due("LEARNT of 5, who KNOWS all, " + f, x.learnt(0, 5, f), NONE);
        }
        Check.says("23: NONE: there is none such (a PERSON)");
        noPerson(people -> "person 0;".repeat(people) + (people > 0 ? "knows " + (people - 1) + " 0;" : ""),
            p -> x.learnt(0, p, 0), 0, NONE);
        Check.says("Terms: LEARNT: what is learnt, as by BELL");
        tell("person 0;person 0;person 0;worth 0 0;worth 1 20;knows 0 0;knows 0 1;knows 1 1;hears 1 0;hears 2 0;");
        due("of no WORTH", x.learnt(0, 0, 0), 0);
        due("by who did not KNOW it", x.learnt(0, 0, 1), 20);
    }

    private interface Town {
        String of(int people);
    }

    private interface Call {
        long of(int person);
    }

    /** For TOWNS of 0 to 6 PEOPLE: the last one is there, the next one is not. */
    private static void noPerson(Town town, Call call, long last, long none) {
        for (int people = 0; people <= 6; people++) {
            tell(town.of(people));
            for (int p : new int[] {MIN, -2, -1, people, people + 1, 32, MAX}) {
                due("PERSON " + p + " of " + people, call.of(p), none);
            }
            if (people > 0) {
                due("PERSON " + (people - 1) + " of " + people, call.of(people - 1), last);
            }
        }
    }

    private static void best(int person, int fact, int much) {
        due("BEST of " + person, x.best(0, person, false), fact);
        due("how much of " + person, x.best(0, person, true), much);
    }

    private static void best() {
        Check.says("24: BEST: the FACT (NONE: he KNOWS none), how much (0)");
        tell(LINE + "knows 0 5;knows 5 5;");
        best(0, 5, 1);
        best(1, NONE, 0);
        best(5, 5, 0);
        Check.says("24: -2: there is none such (a PERSON)");
        noPerson(people -> "person 0;".repeat(people), p -> x.best(0, p, false), NONE, -2);
        noPerson(people -> "person 0;".repeat(people), p -> x.best(0, p, true), 0, -2);
        Check.says("Terms: BEST: of several the least");
        tell("person 0;person 0;knows 0 5;knows 0 3;knows 0 2;worth 2 0;hears 1 0;");
        best(0, 3, 1);
        tell("person 0;person 0;knows 0 5;knows 0 3;knows 0 2;worth 5 2;hears 1 0;");
        best(0, 5, 2);
        tell("person 0;person 0;knows 0 5;knows 0 3;knows 1 3;knows 1 5;hears 1 0;");
        best(0, 3, 0);
    }

    private static void sales() {
        Check.says("25: how much (k NONE), or who buys of PERSON k. NONE: there is none such (a PERSON)");
        tell("");
        row("sales", 0);
        tell("person 0;");
        row("sales", 0, 6);
        tell("person 0;person 0;knows 0 0;hears 1 0;");
        row("sales", 1, 6, 0);
        tell("person 0;person 0;knows 1 0;hears 0 1;");
        row("sales", 1, 1, 6);
        Check.says("Terms: SALES: of whom by his BEST more is LEARNT (not as much)");
        tell(SIX);
        row("sales", 0, 6, 6, 6, 6, 6, 6);
        tell("person 0;person 0;knows 0 0;knows 1 1;hears 0 1;hears 1 0;");
        row("sales", 0, 6, 6);
        tell("person 0;person 0;knows 0 0;knows 1 1;hears 0 1;hears 1 0;worth 1 2;");
        row("sales", 1, 1, 6);
        Check.says("Terms: SALES: nobody in two, of several the first row by numbers (6: nobody)");
        tell("person 0;person 0;person 0;knows 2 0;hears 0 2;");
        row("sales", 1, 2, 6, 6);
        // BESTS: 20, 7, 0, 0, 0, 0
        tell(SIX + "worth 0 20;worth 1 7;knows 0 0;knows 1 1;hears 2 0;hears 3 1;");
        row("sales", 27, 6, 6, 0, 1, 6, 6);
        // BESTS 5, 9, 0: by two sales as much could be gained, but 0 would be in two
        tell("person 0;person 0;person 0;worth 0 5;worth 1 9;knows 0 0;knows 1 1;hears 2 0;hears 2 1;");
        row("sales", 9, 6, 6, 1);
        tell("person 0;person 0;person 0;worth 0 9;worth 1 5;knows 0 0;knows 1 1;hears 2 0;hears 2 1;");
        row("sales", 9, 6, 6, 0);
        tell(SIX + "worth 0 20;worth 1 20;worth 2 20;knows 3 0;knows 4 1;knows 5 2;hears 0 3;hears 0 4;hears 0 5;");
        row("sales", 60, 3, 4, 5, 6, 6, 6);
    }

    private static void luck(int person, long over, long under) {
        due("LUCK of " + person + ", N", x.luck(0, person, false), over);
        due("LUCK of " + person + ", D", x.luck(0, person, true), under);
    }

    private static void luck() {
        Check.says("26: NONE: there is none such (a PERSON)");
        noPerson(people -> "person 0;".repeat(people), p -> x.luck(0, p, false), 0, NONE);
        noPerson(people -> "person 0;".repeat(people), p -> x.luck(0, p, true), 1, NONE);
        Check.says("Terms: LUCK: (or nothing, if he KNOWS none), a fraction in least terms");
        tell("person 0;person 0;hears 1 0;");
        luck(1, 0, 1);
        tell("person 0;person 0;hears 1 0;knows 0 0;");
        luck(0, 0, 1);
        luck(1, 1, 2);
        tell("person 0;person 0;hears 1 0;knows 0 0;knows 1 0;");
        luck(1, 0, 1);
        tell(SIX + "hears 0 1;hears 0 2;hears 0 3;hears 0 4;hears 0 5;knows 1 0;knows 2 0;knows 3 0;knows 4 0;knows 5 0;");
        luck(0, 5, 6);
        for (int known = 0; known <= 6; known++) {
            StringBuilder town = new StringBuilder("person 0;person 0;hears 0 1;" + STAIRS + "knows 1 0;");
            if (known < 6) {
                town.append("knows 0 ").append(known).append(';');
            }
            // 1 KNOWS all six; 0 KNOWS those from known on
            tell(town.toString());
            luck(0, new int[] {0, 1, 1, 1, 1, 5, 1}[known], new int[] {1, 12, 6, 4, 3, 12, 2}[known]);
        }
        Check.says("Terms: LUCK: of whom he does not HEAR he learns nothing");
        tell("person 0;person 0;person 0;knows 0 0;knows 1 1;hears 2 1;");
        luck(0, 0, 1);
        luck(1, 0, 1);
        luck(2, 1, 3);
        Check.says("Terms: LUCK: something of no WORTH is something, too");
        tell("person 0;person 0;hears 1 0;knows 0 0;worth 0 0;");
        luck(1, 1, 2);
    }
}
