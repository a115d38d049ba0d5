/** LOGS in TOWNS (Terms 4, promises 17, 18, 28, 29): each sentence that names a bound, on both sides of it. */
final class BoundsOfLogsTest {
    private static final int NONE = OneStatement.NONE;
    private static final int MIN = Integer.MIN_VALUE;
    private static final int MAX = Integer.MAX_VALUE;
    /** Each FACT FOLLOWS from the one ahead: seven sets are closed. */
    private static final String STAIRS = "follows 0 1;follows 1 2;follows 2 3;follows 3 4;follows 4 5;";
    private static final int[] STAIR_SETS = {0, 32, 48, 56, 60, 62, 63};
    private static final String ALL_TOLD = "told 0;told 1;told 2;told 3;told 4;told 5;";

    private static OneStatement x;

    public static void main(String[] args) {
        fact();
        fitsHowMany();
        fitsNth();
        sure();
        next();
        whose();
        fitsWhat();
        share();
        fewest();
        Check.finish();
    }

    private static void due(String call, long got, long want) {
        Check.due(call, got, want);
    }

    private static void tell(String town, String log) {
        x = Check.with(town, null, log);
    }

    // ---- promise 17

    private static void fact() {
        Check.says("17: How many LINES (k NONE, what 0)");
        for (int n = 0; n <= 8; n++) {
            tell(null, "told 5;".repeat(n));
            due("LINES", x.fact(0, NONE, 0), n);
            for (int what : new int[] {MIN, -1, 1, 2, MAX}) {
                due("k NONE, what " + what, x.fact(0, NONE, what), -2);
            }
        }
        Check.says("17: -2: there is none such (a LINE)");
        for (int n = 0; n <= 8; n++) {
            tell(null, "told 5;".repeat(n));
            for (int k : new int[] {MIN, -2, n, n + 1, MAX}) {
                due("LINE " + k + " of " + n, x.fact(0, k, 0), -2);
                due("LINE " + k + " of " + n, x.fact(0, k, 1), -2);
            }
            if (n > 0) {
                due("the last LINE", x.fact(0, n - 1, 0), 1);
                due("the last LINE", x.fact(0, n - 1, 1), 5);
            }
        }
        Check.says("17: of LINE k, what 0: 0 ASKED, 1 TOLD, 1: the FACT");
        tell(null, "asked 0;told 0;asked 5;told 5;asked 3;");
        int[][] dues = {{0, 0}, {1, 0}, {0, 5}, {1, 5}, {0, 3}};
        for (int k = 0; k < dues.length; k++) {
            due("sort of LINE " + k, x.fact(0, k, 0), dues[k][0]);
            due("FACT of LINE " + k, x.fact(0, k, 1), dues[k][1]);
        }
        Check.says("17: -2 for another what");
        for (int k = 0; k < dues.length; k++) {
            for (int what : new int[] {MIN, -2, -1, 2, 3, MAX}) {
                due("LINE " + k + " what " + what, x.fact(0, k, what), -2);
            }
        }
    }

    // ---- promise 18

    private static void fits(String town, String log, int... sets) {
        tell(town, log);
        due("how many FIT <" + log + ">", x.fits(0, 0, 0), sets.length);
        for (int k = 0; k < sets.length; k++) {
            due("the " + k + "-th that FITS <" + log + ">", x.fits(0, 0, 10 + k), sets[k]);
        }
        due("no more FIT <" + log + ">", x.fits(0, 0, 10 + sets.length), -2);
    }

    private static void fitsHowMany() {
        Check.says("18: FIT, if all that he TOLD are among them, none that he ASKED for is");
        fits(STAIRS, "", STAIR_SETS);
        fits(STAIRS, "told 0;", 63);
        fits(STAIRS, "told 5;", 32, 48, 56, 60, 62, 63);
        fits(STAIRS, "asked 0;", 0, 32, 48, 56, 60, 62);
        fits(STAIRS, "asked 5;", 0);
        fits(STAIRS, "told 3;asked 2;", 56);
        fits(STAIRS, "told 2;asked 3;");
        fits(STAIRS, "told 3;asked 3;");
        fits(STAIRS, "told 3;told 3;told 4;told 5;asked 1;asked 1;asked 0;", 56, 60);
        fits("", ALL_TOLD, 63);
        fits("", ALL_TOLD.replace("told", "asked"), 0);
        fits("", "told 0;told 1;told 2;told 3;told 4;", 31, 63);
        fits("", "told 0;asked 1;told 2;asked 3;told 4;asked 5;told 0;asked 1;", 21);
        fits(STAIRS + "follows 5 0;", "", 0, 63);
        fits(STAIRS + "follows 5 0;", "told 3;", 63);
        fits(STAIRS + "follows 5 0;", "asked 3;", 0);
        fits(STAIRS + "follows 5 0;", "asked 3;told 0;");
    }

    private static void fitsNth() {
        Check.says("18: 10 + k: the k-th. -2: there is none such");
        tell("", "");
        for (int k = 0; k < 64; k++) {
            due("the " + k + "-th of 64", x.fits(0, 0, 10 + k), k);
        }
        for (int what : new int[] {74, 75, 100, 138, MAX}) {
            due("what " + what, x.fits(0, 0, what), -2);
        }
        tell("", "told 0;");
        for (int k = 0; k < 32; k++) {
            due("the " + k + "-th of 32", x.fits(0, 0, 10 + k), 2 * k + 1);
        }
        due("no 33rd", x.fits(0, 0, 42), -2);
        tell("", "told 0;asked 0;");
        due("no first", x.fits(0, 0, 10), -2);
    }

    private static void answers(int what, String town, String log, int want) {
        tell(town, log);
        due("fits " + what + " of <" + log + "> in <" + town + ">", x.fits(0, 0, what), want);
    }

    private static void sure() {
        Check.says("18: SURE (bits; NONE: nothing FITS)");
        answers(1, "", "told 0;asked 0;", NONE);
        answers(1, STAIRS, "told 0;asked 5;", NONE);
        answers(1, "", "", 0);
        answers(1, "", "asked 0;", 0);
        answers(1, "", "told 0;", 1);
        answers(1, "", ALL_TOLD, 63);
        answers(1, STAIRS, "told 2;", 60);
        answers(1, STAIRS, "told 0;", 63);
        answers(1, STAIRS + "follows 5 0;", "told 5;", 63);
    }

    private static void next() {
        Check.says("18: NEXT (NONE: nothing FITS), of several the least");
        answers(2, "", "told 0;asked 0;", NONE);
        answers(2, STAIRS, "told 0;asked 5;", NONE);
        answers(2, "", "", 0);
        answers(2, "", "told 0;", 1);
        answers(2, "", "asked 0;told 1;", 2);
        answers(2, "", "told 0;told 1;told 2;told 3;told 4;", 5);
        answers(2, "", ALL_TOLD, 0);
        answers(2, "", ALL_TOLD.replace("told", "asked"), 0);
        // seven sets: three have 2, four have 3
        answers(2, STAIRS, "", 2);
        answers(2, STAIRS, "asked 0;", 3);
        answers(2, STAIRS, "told 5;", 2);
        answers(2, STAIRS, "told 5;asked 0;", 2);
        answers(2, STAIRS, "told 3;", 1);
        answers(2, STAIRS, "told 0;", 0);
    }

    private static void whose() {
        Check.says("18: WHOSE (bits): PEOPLE who KNOW just what FITS");
        answers(3, "", "", 0);
        answers(3, "person 0;", "", 1);
        answers(3, "person 0;".repeat(6), "", 63);
        answers(3, "person 0;".repeat(6), "told 0;", 0);
        answers(3, "person 0;".repeat(6), "asked 0;", 63);
        answers(3, "person 0;".repeat(6) + "knows 5 5;", "told 5;", 32);
        answers(3, "person 0;".repeat(6) + "knows 5 5;", "asked 5;", 31);
        answers(3, "person 0;".repeat(6) + "knows 5 4;knows 0 5;" + STAIRS, "told 5;", 33);
        answers(3, "person 0;".repeat(6) + "knows 5 4;knows 0 5;" + STAIRS, "told 5;asked 4;", 1);
        Check.says("18: WHOSE, where nothing FITS: nobody's");
        answers(3, "person 0;person 0;knows 1 0;", "told 0;asked 0;", 0);
    }

    private static void fitsWhat() {
        Check.says("18: -2 for another what");
        tell(STAIRS, "told 0;");
        for (int what : new int[] {MIN, MIN + 10, -10, -2, -1, 4, 5, 6, 7, 8, 9, 11, 74, MAX}) {
            due("what " + what, x.fits(0, 0, what), -2);
        }
        due("what 0", x.fits(0, 0, 0), 1);
        due("what 3", x.fits(0, 0, 3), 0);
        due("what 10", x.fits(0, 0, 10), 63);
    }

    // ---- promises 28 and 29

    private static void share(String town, String log, int fact, long over, long under) {
        tell(town, log);
        String name = "SHARE of " + fact + " by <" + log + "> in <" + town + ">";
        due(name + ", N", x.share(0, 0, fact, false), over);
        due(name + ", D", x.share(0, 0, fact, true), under);
    }

    private static void share() {
        Check.says("28: NONE: nothing FITS");
        for (int f = 0; f < 6; f++) {
            share("", "told 0;asked 0;", f, NONE, NONE);
            share(STAIRS, "told 0;asked 5;", f, NONE, NONE);
        }
        share(STAIRS, "told 5;asked 4;", 5, 1, 1);
        Check.says("28: NONE: there is none such (a FACT)");
        for (int fact : new int[] {MIN, -2, -1, 6, 7, 32, 64, MAX}) {
            share(STAIRS, "", fact, NONE, NONE);
        }
        Check.says("28: how likely he KNOWS it, a fraction in least terms");
        for (int f = 0; f < 6; f++) {
            share("", "", f, 1, 2);
            share("", ALL_TOLD, f, 1, 1);
            share("", ALL_TOLD.replace("told", "asked"), f, 0, 1);
            share(STAIRS, "", f, f + 1, 7);
            share(STAIRS, "asked 5;", f, 0, 1);
            share(STAIRS, "told 0;", f, 1, 1);
        }
        for (int f = 1; f < 5; f++) {
            share(STAIRS, "told 5;asked 0;", f, f, 5);
        }
        share(STAIRS, "told 5;", 1, 1, 3);
        share(STAIRS, "told 5;", 2, 1, 2);
        share(STAIRS, "told 5;", 3, 2, 3);
        share(STAIRS, "told 5;", 4, 5, 6);
        share(STAIRS, "told 5;", 5, 1, 1);
        share(STAIRS, "asked 0;", 0, 0, 1);
    }

    private static void fewest(String town, String log, int fewest, int most) {
        tell(town, log);
        due("FEWEST by <" + log + "> in <" + town + ">", x.fewest(0, 0, false), fewest);
        due("MOST by <" + log + "> in <" + town + ">", x.fewest(0, 0, true), most);
    }

    private static void fewest() {
        Check.says("29: NONE: nothing FITS");
        fewest("", "told 0;asked 0;", NONE, NONE);
        fewest(STAIRS, "told 0;asked 5;", NONE, NONE);
        fewest(STAIRS, "told 5;asked 4;", 1, 1);
        Check.says("29: how many FACTS he KNOWS, of all that FIT, at least, at most");
        fewest("", "", 0, 6);
        fewest("", ALL_TOLD, 6, 6);
        fewest("", ALL_TOLD.replace("told", "asked"), 0, 0);
        fewest("", "told 5;", 1, 6);
        fewest("", "asked 5;", 0, 5);
        fewest(STAIRS, "", 0, 6);
        fewest(STAIRS, "told 2;", 4, 6);
        fewest(STAIRS, "asked 2;", 0, 3);
        fewest(STAIRS, "told 5;asked 2;", 1, 3);
        fewest(STAIRS + "follows 5 0;", "told 3;", 6, 6);
        fewest(STAIRS + "follows 5 0;", "asked 3;", 0, 0);
    }
}
