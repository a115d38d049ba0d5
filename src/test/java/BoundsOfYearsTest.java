/** YEARS of TOWNS (Terms 2, promises 7 to 9, 19, 27): each sentence that names a bound, on both sides of it. */
final class BoundsOfYearsTest {
    private static final int NONE = OneStatement.NONE;
    private static final int MIN = Integer.MIN_VALUE;
    private static final int MAX = Integer.MAX_VALUE;
    /** 1 and 2 HEAR 0, 0 HEARS 2; from FACT 0 FOLLOWS 1, from 1 FOLLOWS 2. */
    private static final String THREE = "person 0;person 30;person 7;follows 0 1;follows 1 2;knows 0 0;knows 2 2;"
        + "hears 1 0;hears 2 0;hears 0 2;";
    private static final String FOUR_RICH = "person 30;person 30;person 30;person 30;";

    private static OneStatement x;

    public static void main(String[] args) {
        deed();
        begins();
        tell();
        ask();
        see();
        sell();
        mostCows();
        eve();
        noSuchPerson();
        till();
        stateUpToEnd();
        stateWhat();
        drawnTimes();
        drawnNumbers();
        drawnWithFewPeople();
        drawnIfItMay();
        fire();
        saver();
        richest();
        wisest();
        news();
        guessed();
        afterWhat();
        Check.finish();
    }

    private static void due(String call, long got, long want) {
        Check.due(call, got, want);
    }

    private static void play(String town, String year) {
        x = Check.with(town, year, null);
    }

    /** END of a YEAR in a TOWN. */
    private static void ends(String town, String year, int want) {
        play(town, year);
        due("END of " + year, x.till(0, 0), want);
    }

    /** What all are behind n DEEDS, what being 10, 20, 30 or 40. */
    private static void all(int n, int what, int... dues) {
        for (int p = 0; p < dues.length; p++) {
            due("state " + n + " " + (what + p), x.state(0, 0, n, what + p), dues[p]);
        }
    }

    // ---- promise 7

    private static void deed() {
        Check.says("7: How many DEEDS (k NONE, what 0)");
        for (int n : new int[] {0, 1, 39, 40}) {
            x = Check.with(null, "eve;".repeat(n), null);
            due("DEEDS", x.deed(0, NONE, 0), n);
            for (int what : new int[] {MIN, -1, 1, 2, 3, 4, MAX}) {
                due("k NONE, what " + what, x.deed(0, NONE, what), -2);
            }
        }
        Check.says("7: -2: there is none such (a DEED)");
        for (int n : new int[] {0, 1, 39, 40}) {
            x = Check.with(null, "eve;".repeat(n), null);
            for (int k : new int[] {MIN, -2, n, n + 1, MAX}) {
                due("DEED " + k + " of " + n, x.deed(0, k, 0), -2);
            }
            if (n > 0) {
                due("the first", x.deed(0, 0, 0), 4);
                due("the last", x.deed(0, n - 1, 0), 4);
            }
        }
        Check.says("7: of DEED k, what 0: 0 tell, 1 ask, 2 see, 3 sell, 4 eve, 1, 2, 3: its numbers (NONE without)");
        x = Check.with(null, "tell 5 0;ask 0 5;see 4 1;sell 5 0 30;sell 0 5 0;eve;", null);
        int[][] dues = {{0, 5, 0, NONE}, {1, 0, 5, NONE}, {2, 4, 1, NONE}, {3, 5, 0, 30}, {3, 0, 5, 0}, {4, NONE, NONE, NONE}};
        for (int k = 0; k < 6; k++) {
            for (int what = 0; what < 4; what++) {
                due("deed " + k + " " + what, x.deed(0, k, what), dues[k][what]);
            }
        }
        Check.says("7: -2 for another what");
        for (int k = 0; k < 6; k++) {
            for (int what : new int[] {MIN, -2, -1, 4, 5, MAX}) {
                due("deed " + k + " " + what, x.deed(0, k, what), -2);
            }
        }
    }

    // ---- Terms 2

    private static void begins() {
        Check.says("Terms: begins in year 0, each of the PEOPLE having one STATEMENT, nobody SUSPECTING anything");
        play(THREE, "");
        for (int what = 0; what < 3; what++) {
            due("year, TOLD, LOST", x.state(0, 0, 0, what), 0);
        }
        all(0, 10, 1, 1, 1);
        all(0, 20, 0, 30, 7);
        all(0, 30, 7, 0, 4);
        all(0, 40, 0, 0, 0);
    }

    private static void tell() {
        Check.says("Terms: tell: a PERSON who KNOWS a FACT");
        for (int f = 0; f < 6; f++) {
            ends(THREE, "tell 0 " + f + ";", f <= 2 ? 1 : 0);
            ends(THREE, "tell 1 " + f + ";", 0);
            ends(THREE, "tell 2 " + f + ";", f == 2 ? 1 : 0);
            ends(THREE, "see 1 " + f + ";tell 1 " + f + ";", 2);
        }
        Check.says("Terms: tell: and has a STATEMENT: he has one less");
        ends(THREE, "tell 0 0;tell 0 0;", 1);
        all(0, 10, 1, 1, 1);
        all(1, 10, 0, 1, 1);
        ends(THREE, "sell 1 0 0;tell 0 0;tell 0 0;tell 0 0;", 3);
        all(1, 10, 2, 0, 1);
        all(2, 10, 1, 0, 1);
        all(3, 10, 0, 0, 1);
        ends(THREE, "sell 1 0 0;sell 2 0 0;tell 0 0;tell 0 0;tell 0 0;tell 0 0;", 5);
        Check.says("Terms: tell: all who HEAR him KNOW it");
        ends(THREE, "tell 0 0;", 1);
        all(1, 30, 7, 7, 7);
        ends(THREE, "see 2 5;tell 2 5;", 2);
        all(2, 30, 39, 0, 36);
        ends(THREE, "see 1 5;tell 1 5;", 2);
        all(2, 30, 7, 32, 4);
        ends(THREE, "tell 0 1;", 1);
        all(1, 30, 7, 6, 6);
        ends("person 0;knows 0 5;", "tell 0 5;", 1);
        all(1, 30, 32);
    }

    private static void ask() {
        Check.says("Terms: ask: of all who HEAR him, and do not KNOW it, the other ones SUSPECT it");
        ends(THREE, "ask 0 2;ask 2 2;ask 1 2;ask 2 5;", 4);
        all(1, 40, 0, 4, 0);
        all(2, 40, 0, 4, 0);
        all(3, 40, 0, 4, 0);
        all(4, 40, 32, 4, 0);
        all(4, 30, 7, 0, 4);
        Check.says("Terms: ask: he who SUSPECTS it KNOWS it then");
        ends(THREE, "ask 0 1;ask 0 1;ask 0 1;", 3);
        all(1, 30, 7, 0, 4);
        all(1, 40, 0, 2, 2);
        all(2, 30, 7, 6, 6);
        all(2, 40, 0, 0, 0);
        all(3, 30, 7, 6, 6);
        all(3, 40, 0, 0, 0);
        Check.says("Terms: ask: another FACT that he SUSPECTS is not KNOWN by it");
        ends(THREE, "ask 0 3;ask 0 4;", 2);
        all(2, 40, 0, 24, 24);
        all(2, 30, 7, 0, 4);
        Check.says("Terms: ask: by two, by who HEARS both");
        ends("person 0;person 0;person 0;hears 2 0;hears 2 1;", "ask 0 0;ask 1 0;", 2);
        all(2, 30, 0, 0, 1);
        Check.says("Terms: ask takes no STATEMENT, and needs none, nor that he does not KNOW it");
        ends(THREE, "tell 0 0;ask 0 0;ask 0 5;ask 0 5;ask 0 5;", 5);
        all(5, 10, 0, 1, 1);
        Check.says("Terms: nobody SUSPECTS what he KNOWS");
        ends(THREE, "ask 0 2;ask 0 1;ask 0 0;see 1 1;ask 0 1;", 5);
        all(3, 40, 0, 7, 3);
        all(4, 40, 0, 1, 3);
        all(4, 30, 7, 6, 4);
        all(5, 40, 0, 1, 1);
        ends(THREE, "ask 0 1;ask 0 2;tell 0 0;", 3);
        all(2, 40, 0, 6, 2);
        all(3, 40, 0, 0, 0);
        ends(THREE, "ask 0 2;ask 0 0;ask 0 0;", 3);
        all(2, 40, 0, 5, 1);
        all(3, 40, 0, 0, 0);
        all(3, 30, 7, 7, 7);
    }

    private static void see() {
        Check.says("Terms: see: a PERSON KNOWS a FACT (and all that FOLLOWS; nobody else does; it takes no STATEMENT)");
        ends(THREE, "see 1 0;see 1 0;see 2 5;", 3);
        all(1, 30, 7, 7, 4);
        all(2, 30, 7, 7, 4);
        all(3, 30, 7, 7, 36);
        all(3, 10, 1, 1, 1);
        due("TOLD", x.state(0, 0, 3, 1), 0);
        ends(THREE, "tell 0 0;see 0 5;", 2);
        all(2, 10, 0, 1, 1);
    }

    private static void sell() {
        Check.says("Terms: sell: a PERSON who has a STATEMENT");
        ends(THREE, "sell 0 1 0;sell 0 1 0;", 1);
        all(1, 10, 0, 2, 1);
        ends(THREE, "tell 0 0;sell 0 1 0;", 1);
        ends(THREE, "sell 0 1 0;sell 1 2 0;sell 1 2 0;sell 1 2 0;", 3);
        all(3, 10, 0, 0, 3);
        ends(THREE, "sell 0 1 0;sell 1 0 0;sell 0 1 0;", 3);
        Check.says("Terms: sell: to one who has so many COWS");
        for (int cows = 0; cows <= 30; cows++) {
            ends(THREE, "sell 0 1 " + cows + ";", 1);
            all(1, 20, cows, 30 - cows, 7);
            ends(THREE, "sell 0 2 " + cows + ";", cows <= 7 ? 1 : 0);
            ends(THREE, "sell 1 0 " + cows + ";", cows == 0 ? 1 : 0);
        }
        ends(THREE, "sell 0 2 3;sell 1 2 5;", 1);
        ends(THREE, "sell 0 2 3;sell 1 2 4;", 2);
        all(2, 20, 3, 34, 0);
        Check.says("Terms: sell: the STATEMENT is the other one's, the COWS are his");
        ends(THREE, "sell 2 1 30;sell 1 2 30;", 2);
        all(1, 10, 1, 2, 0);
        all(1, 20, 0, 0, 37);
        all(2, 10, 1, 1, 1);
        all(2, 20, 0, 30, 7);
    }

    private static void mostCows() {
        Check.says("Terms: the COWS are his, 99 at most");
        int[] pays = {7, 8, 9, 10, 11, 30};
        int[] has = {97, 98, 99, 99, 99, 99};
        for (int k = 0; k < pays.length; k++) {
            ends(FOUR_RICH, "sell 0 1 30;eve;sell 0 2 30;eve;sell 0 3 " + pays[k] + ";", 5);
            all(4, 20, 90, 0, 0, 30);
            all(5, 20, has[k], 0, 0, 30 - pays[k]);
        }
        ends(FOUR_RICH, "sell 0 1 30;eve;sell 0 2 30;eve;sell 0 3 9;eve;sell 0 3 1;eve;sell 0 3 0;eve;sell 3 0 30;", 11);
        all(5, 20, 99, 0, 0, 21);
        all(7, 20, 99, 0, 0, 20);
        all(9, 20, 99, 0, 0, 20);
        all(11, 20, 69, 0, 0, 50);
    }

    private static void eve() {
        Check.says("Terms: eve: all STATEMENTS that are left are LOST; each has one; the next year");
        ends(THREE, "eve;", 1);
        due("LOST", x.state(0, 0, 1, 2), 3);
        due("year", x.state(0, 0, 1, 0), 1);
        all(1, 10, 1, 1, 1);
        ends(THREE, "sell 0 1 0;tell 2 2;eve;eve;", 4);
        all(2, 10, 0, 2, 0);
        all(3, 10, 1, 1, 1);
        due("LOST ahead of it", x.state(0, 0, 2, 2), 0);
        due("LOST", x.state(0, 0, 3, 2), 2);
        due("LOST in all", x.state(0, 0, 4, 2), 5);
        due("TOLD in all", x.state(0, 0, 4, 1), 1);
        due("year", x.state(0, 0, 4, 0), 2);
        ends(THREE, "see 1 3;tell 0 0;tell 1 3;tell 2 2;eve;", 5);
        due("nothing is left", x.state(0, 0, 5, 2), 0);
        due("TOLD", x.state(0, 0, 5, 1), 3);
        all(5, 10, 1, 1, 1);
        Check.says("Terms: eve: nobody SUSPECTS anything any more");
        ends(THREE, "ask 0 3;ask 0 4;eve;ask 0 3;ask 0 3;", 5);
        all(2, 40, 0, 24, 24);
        all(3, 40, 0, 0, 0);
        all(3, 30, 7, 0, 4);
        all(4, 40, 0, 8, 8);
        all(4, 30, 7, 0, 4);
        all(5, 30, 7, 8, 12);
        Check.says("Terms: eve: what each KNOWS, and his COWS, stay");
        ends(THREE, "sell 0 1 4;tell 2 2;eve;", 3);
        all(3, 20, 4, 26, 7);
        all(3, 30, 7, 0, 4);
        Check.says("Terms: DEEDS, at most 40: so many eves");
        play("person 0;".repeat(6), "eve;".repeat(40));
        due("END", x.till(0, 0), 40);
        due("year", x.state(0, 0, 40, 0), 40);
        due("LOST", x.state(0, 0, 40, 2), 240);
    }

    private static void noSuchPerson() {
        Check.says("Terms: A DEED can't be, if there is no such PERSON");
        for (int people = 0; people <= 6; people++) {
            String town = "person 9;".repeat(people);
            for (int p = 0; p < 6; p++) {
                int want = p < people ? 2 : 1;
                ends(town, "eve;ask " + p + " 0;", want);
                ends(town, "eve;see " + p + " 0;", want);
                ends(town, "eve;tell " + p + " 0;", 1);
                if (p < people) {
                    ends(town + "knows " + p + " 0;", "eve;tell " + p + " 0;", 2);
                }
                int other = p == 0 ? 1 : 0;
                boolean both = p < people && other < people;
                ends(town, "eve;sell " + p + " " + other + " 9;", both ? 2 : 1);
                ends(town, "eve;sell " + other + " " + p + " 9;", both ? 2 : 1);
                ends(town, "eve;sell " + other + " " + p + " 0;", both ? 2 : 1);
            }
            ends(town, "eve;eve;", 2);
        }
        Check.says("Terms: a DEED that can't be leaves all as it was");
        ends("person 3;person 4;knows 0 0;", "tell 0 0;tell 0 0;", 1);
        due("TOLD", x.state(0, 0, 1, 1), 1);
        due("NEWS", x.after(0, 0, 4), 0);
        ends("person 3;person 4;", "sell 0 1 5;", 0);
        all(0, 20, 3, 4);
        due("RICHEST", x.after(0, 0, 2), 1);
    }

    // ---- promises 8 and 9

    private static void till() {
        Check.says("8: END: the first DEED that can't be, else how many there are");
        ends(THREE, "", 0);
        ends(THREE, "tell 1 0;", 0);
        ends(THREE, "tell 1 0;eve;eve;", 0);
        ends(THREE, "eve;tell 1 0;eve;", 1);
        ends(THREE, "eve;eve;tell 1 0;", 2);
        ends(THREE, "eve;eve;eve;", 3);
        ends(THREE, "eve;".repeat(39) + "tell 1 0;", 39);
        ends(THREE, "eve;".repeat(40), 40);
        ends("", "", 0);
        ends("", "eve;see 0 0;", 1);
    }

    private static void stateUpToEnd() {
        Check.says("9: A STATE is behind the first n DEEDS, n up to END (NONE: there is no such STATE)");
        String[] years = {"", "tell 1 0;eve;", "eve;tell 1 0;eve;eve;", "eve;eve;eve;", "eve;".repeat(39) + "tell 1 0;", "eve;".repeat(40)};
        int[] ends = {0, 0, 1, 3, 39, 40};
        for (int k = 0; k < years.length; k++) {
            play(THREE, years[k]);
            for (int n = 0; n <= 42; n++) {
                due("the year behind " + n, x.state(0, 0, n, 0), n <= ends[k] ? n : NONE);
                due("COWS behind " + n, x.state(0, 0, n, 21), n <= ends[k] ? 30 : NONE);
            }
            for (int n : new int[] {MIN, -2, -1, MAX}) {
                due("behind " + n, x.state(0, 0, n, 0), NONE);
            }
        }
    }

    private static boolean mayBe(int what, int people) {
        return what >= 0 && what < 3 || what >= 10 && what < 50 && what % 10 < people;
    }

    private static void stateWhat() {
        Check.says("9: 10 + p, 20 + p, 30 + p, 40 + p .. of a PERSON; NONE for another what");
        for (int people = 0; people <= 6; people++) {
            play("person 9;".repeat(people), "eve;");
            for (int what = -30; what <= 80; what++) {
                long got = x.state(0, 0, 0, what);
                boolean is = mayBe(what, people);
                due("what " + what + " of " + people, got, !is ? NONE : what / 10 == 1 ? 1 : what / 10 == 2 ? 9 : 0);
                due("drawn: what " + what + " of " + people, x.drawn(0, 1, 0, what), got);
            }
            for (int what : new int[] {MIN, MIN + 10, -100, 100, 110, 1010, MAX, MAX - 7}) {
                due("what " + what, x.state(0, 0, 0, what), NONE);
                due("drawn: what " + what, x.drawn(0, 1, 0, what), NONE);
            }
        }
    }

    // ---- promise 19

    /** The document's numbers, with all of 64 bits at hand and cut to 32. */
    private static final class Draws {
        private long seed;

        Draws(int seed) {
            this.seed = seed & 0xFFFFFFFFL;
        }

        int below(int n) {
            seed = (seed * 1103515245L + 12345L) % 4294967296L;
            return (int) (seed / 65536 % n);
        }
    }

    /** The year behind n draws in a TOWN of so many PEOPLE: what it is hangs on how many numbers each draw takes. */
    private static int eves(int seed, int n, int people) {
        Draws draws = new Draws(seed);
        int eves = 0;
        for (int k = 0; k < n; k++) {
            int sort = draws.below(8);
            eves += sort >= 6 ? 1 : 0;
            if (sort < 5 && people > 0) {
                draws.below(people);
                draws.below(6);
            } else if (sort == 5 && people > 1) {
                draws.below(people);
                draws.below(people - 1);
                draws.below(6);
            }
        }
        return eves;
    }

    private static final int[] SEEDS = {0, 1, -1, MIN, MAX, MIN + 1, 12345, 1103515245, -1103515245, 65535, 65536, 2026};

    private static void drawnTimes() {
        Check.says("19: n times, 0 to 60 (NONE: another n)");
        for (int people = 0; people <= 6; people++) {
            for (int n : new int[] {MIN, -2, -1, 0, 1, 30, 59, 60, 61, 62, MAX}) {
                x = Check.with("person 9;".repeat(people), null, null);
                for (int seed : SEEDS) {
                    boolean is = n >= 0 && n <= 60;
                    due("the year of " + seed + " " + n, x.drawn(0, seed, n, 0), is ? eves(seed, n, people) : NONE);
                    due("LOST of " + seed + " " + n, x.drawn(0, seed, n, 2) == NONE ? 1 : 0, is ? 0 : 1);
                }
            }
        }
        Check.says("19: the 60th is drawn, too");
        x = Check.with("", null, null);
        int more = 0;
        for (int seed = 0; seed < 40; seed++) {
            due("the year", x.drawn(0, seed, 60, 0), eves(seed, 60, 0));
            more += eves(seed, 60, 0) - eves(seed, 59, 0);
        }
        due("some have an eve then", more > 0 ? 1 : 0, 1);
    }

    private static void drawnNumbers() {
        Check.says("19: x * 1103515245 + 12345 (of 32 bits), shifted right by 16 without sign, remainder by n");
        for (int people = 0; people <= 6; people += 2) {
            for (int seed : SEEDS) {
                x = Check.with("person 9;".repeat(people), null, null);
                for (int n = 0; n <= 60; n += 3) {
                    due("the year of " + seed + " " + n, x.drawn(0, seed, n, 0), eves(seed, n, people));
                }
            }
        }
        Check.says("19: 0, 1: tell, 2, 3: ask, 4: see, a PERSON, a FACT; 5: sell; 6, 7: eve");
        String town = "person 9;".repeat(6) + "knows 0 0;follows 0 1;follows 1 2;follows 2 3;follows 3 4;follows 4 5;"
            + "follows 5 0;hears 5 0;hears 1 0;hears 1 2;hears 1 3;hears 1 4;hears 1 5;hears 0 1;hears 2 1;hears 3 1;"
            + "hears 4 1;hears 5 1;";
        x = Check.with(town, null, null);
        boolean[] seen = new boolean[8];
        for (int seed = 0; seed < 60; seed++) {
            Draws draws = new Draws(seed);
            int sort = draws.below(8);
            seen[sort] = true;
            int p = sort < 6 ? draws.below(6) : 0;
            int second = sort < 5 ? draws.below(6) : sort == 5 ? draws.below(5) : 0;
            firstDrawn(seed, sort, p, second, sort == 5 ? draws.below(6) : 0);
        }
        for (int sort = 0; sort < 8; sort++) {
            Check.due("a seed that draws " + sort, seen[sort], true);
        }
    }

    /** 0 alone KNOWS something, and all of it; 1 HEARS all others, all HEAR 1. */
    private static void firstDrawn(int seed, int sort, int p, int second, int cows) {
        String name = "seed " + seed + ", " + sort + ": ";
        due(name + "year", x.drawn(0, seed, 1, 0), sort >= 6 ? 1 : 0);
        due(name + "TOLD", x.drawn(0, seed, 1, 1), sort < 2 && p == 0 ? 1 : 0);
        due(name + "STATEMENTS", x.drawn(0, seed, 1, 10 + p), sort < 2 && p == 0 || sort == 5 ? 0 : 1);
        due(name + "COWS", x.drawn(0, seed, 1, 20 + p), sort == 5 ? 9 + cows : 9);
        if (sort == 5) {
            int other = (second + 1 + p) % 6;
            due(name + "the other one's COWS", x.drawn(0, seed, 1, 20 + other), 9 - cows);
            due(name + "the other one's STATEMENTS", x.drawn(0, seed, 1, 10 + other), 2);
        }
        due(name + "KNOWS", x.drawn(0, seed, 1, 30 + p), sort == 4 || p == 0 ? 63 : 0);
        due(name + "1 KNOWS", x.drawn(0, seed, 1, 31), sort < 2 && p == 0 || sort == 4 && p == 1 ? 63 : 0);
        boolean hears = (sort == 2 || sort == 3) && p != 1;
        due(name + "1 SUSPECTS", x.drawn(0, seed, 1, 41), hears ? 1 << second : 0);
    }

    private static void drawnWithFewPeople() {
        Check.says("19: (Without PEOPLE 0 to 5 draw no more, nothing is done.)");
        for (int seed = -30; seed < 30; seed++) {
            x = Check.with("", null, null);
            for (int n : new int[] {1, 2, 7, 60}) {
                due("the year", x.drawn(0, seed, n, 0), eves(seed, n, 0));
                due("TOLD", x.drawn(0, seed, n, 1), 0);
                due("LOST", x.drawn(0, seed, n, 2), 0);
            }
        }
        Check.says("19: (with one of them 5 draw no more, nothing is done.)");
        for (int seed = -30; seed < 30; seed++) {
            x = Check.with("person 9;", null, null);
            for (int n : new int[] {1, 2, 7, 60}) {
                due("the year", x.drawn(0, seed, n, 0), eves(seed, n, 1));
                due("COWS", x.drawn(0, seed, n, 20), 9);
            }
        }
        Check.says("19: with two of them 5 is a sale to the other one");
        for (int seed = -30; seed < 30; seed++) {
            x = Check.with("person 20;person 20;", null, null);
            Draws draws = new Draws(seed);
            boolean sale = draws.below(8) == 5;
            int p = draws.below(2);
            draws.below(1);
            int cows = sale ? draws.below(6) : 0;
            due("the seller's COWS", x.drawn(0, seed, 1, 20 + p), 20 + cows);
            due("the other one's COWS", x.drawn(0, seed, 1, 21 - p), 20 - cows);
            due("the other one's STATEMENTS", x.drawn(0, seed, 1, 11 - p), sale ? 2 : 1);
        }
    }

    private static void drawnIfItMay() {
        Check.says("19: each, if it may");
        for (int seed = -30; seed < 30; seed++) {
            x = Check.with("person 0;person 0;", null, null);
            due("what can't be done is drawn all the same", x.drawn(0, seed, 60, 0), eves(seed, 60, 2));
            due("nobody has COWS", x.drawn(0, seed, 60, 20) + x.drawn(0, seed, 60, 21), 0);
        }
    }

    // ---- promise 27

    private static void after(int what, String town, String year, int want) {
        play(town, year);
        due("after " + what + " of " + year, x.after(0, 0, what), want);
    }

    private static void fire() {
        Check.says("27: FIRE: the DEED (from 0 on) by which something was first TOLD (none)");
        after(0, THREE, "", NONE);
        after(0, THREE, "eve;ask 0 0;see 1 1;sell 0 1 0;", NONE);
        after(0, THREE, "tell 0 0;", 0);
        after(0, THREE, "tell 0 0;tell 2 2;", 0);
        after(0, THREE, "eve;tell 2 2;tell 0 0;", 1);
        after(0, THREE, "eve;".repeat(39) + "tell 0 0;", 39);
        Check.says("27: FIRE, up to END");
        after(0, THREE, "tell 1 1;tell 0 0;", NONE);
        after(0, THREE, "tell 1 1;", NONE);
        after(0, "", "tell 0 0;", NONE);
    }

    private static void saver() {
        Check.says("27: SAVER: the PERSON who LOST most STATEMENTS, of several the least (none)");
        after(1, THREE, "", NONE);
        after(1, THREE, "sell 0 1 0;", NONE);
        after(1, THREE, "eve;", 0);
        after(1, THREE, "sell 0 1 0;eve;", 1);
        after(1, THREE, "tell 0 0;eve;", 1);
        after(1, THREE, "see 1 1;tell 0 0;tell 1 1;eve;", 2);
        after(1, THREE, "see 1 1;tell 0 0;tell 1 1;tell 2 2;eve;", NONE);
        after(1, THREE, "sell 0 1 0;eve;sell 1 0 0;eve;", 0);
        after(1, THREE, "sell 0 2 0;eve;sell 1 0 0;eve;", 2);
        after(1, "", "eve;", NONE);
        Check.says("27: SAVER, up to END");
        after(1, THREE, "tell 1 1;eve;", NONE);
        after(1, THREE, "eve;sell 0 2 0;tell 1 1;eve;", 0);
    }

    private static void richest() {
        Check.says("27: RICHEST: the PERSON of most COWS, of several the least (no PEOPLE: none)");
        after(2, "", "", NONE);
        after(2, "", "eve;", NONE);
        after(2, "person 0;", "", 0);
        after(2, "person 0;person 0;", "", 0);
        after(2, "person 0;person 1;", "", 1);
        after(2, "person 1;person 2;person 2;", "", 1);
        after(2, "person 7;person 9;", "sell 0 1 1;", 0);
        after(2, "person 6;person 9;", "sell 0 1 1;", 1);
        after(2, "person 6;person 9;", "sell 0 1 2;", 0);
        Check.says("27: RICHEST, up to END");
        after(2, "person 6;person 9;", "sell 0 1 1;sell 0 1 1;sell 1 0 0;", 1);
    }

    private static void wisest() {
        Check.says("27: WISEST: the PERSON who KNOWS most by WORTH, of several the least (no PEOPLE: none)");
        after(3, "", "", NONE);
        after(3, "person 0;", "", 0);
        after(3, "person 0;person 0;", "", 0);
        after(3, "person 0;person 0;knows 1 0;", "", 1);
        after(3, "person 0;person 0;knows 1 0;worth 0 0;", "", 0);
        after(3, "person 0;person 0;knows 1 0;worth 0 2;knows 0 1;knows 0 2;", "", 0);
        after(3, "person 0;person 0;knows 1 0;worth 0 3;knows 0 1;knows 0 2;", "", 1);
        after(3, "person 0;person 0;knows 0 0;follows 1 2;", "see 1 1;", 1);
        Check.says("27: WISEST, up to END");
        after(3, "person 0;person 0;", "tell 0 0;see 1 1;", 0);
    }

    private static void news() {
        Check.says("27: NEWS: the FACT that was TOLD most often, of several the least (none)");
        after(4, THREE, "", NONE);
        after(4, THREE, "see 1 5;ask 0 5;eve;", NONE);
        after(4, THREE, "see 0 5;tell 0 5;", 5);
        after(4, THREE, "see 0 5;tell 0 5;tell 2 2;", 2);
        after(4, THREE, "see 0 5;tell 0 5;tell 2 2;eve;tell 2 5;", 5);
        after(4, THREE, "tell 0 0;", 0);
        after(4, THREE, "tell 0 2;", 2);
        Check.says("27: NEWS, up to END");
        after(4, THREE, "tell 0 2;tell 1 0;tell 2 0;", 2);
        after(4, "", "eve;", NONE);
    }

    private static void guessed() {
        Check.says("27: GUESSED: how often by an ask one came to KNOW a FACT");
        after(5, THREE, "", 0);
        after(5, THREE, "ask 0 3;", 0);
        after(5, THREE, "ask 0 3;ask 0 3;", 2);
        after(5, THREE, "ask 0 3;see 1 3;ask 0 3;", 1);
        after(5, THREE, "ask 0 3;see 1 3;see 2 3;ask 0 3;", 0);
        after(5, THREE, "ask 0 3;eve;ask 0 3;", 0);
        after(5, THREE, "ask 0 3;ask 0 3;ask 0 3;ask 0 3;", 2);
        after(5, THREE, "ask 0 3;ask 0 3;ask 0 4;ask 0 4;ask 2 5;ask 2 5;", 5);
        after(5, THREE, "ask 0 2;ask 0 2;", 1);
        Check.says("27: GUESSED, up to END");
        after(5, THREE, "ask 0 3;tell 1 1;ask 0 3;", 0);
        after(5, "", "eve;", 0);
    }

    private static void afterWhat() {
        Check.says("27: -2 for another what");
        play(THREE, "eve;");
        for (int what : new int[] {MIN, -2, -1, 6, 7, 10, MAX}) {
            due("after " + what, x.after(0, 0, what), -2);
        }
        due("what 0", x.after(0, 0, 0), NONE);
        due("what 5", x.after(0, 0, 5), 0);
    }
}
