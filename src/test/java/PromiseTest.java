/** For each promise of the document: ordinary inputs, the edges that it names, wrong inputs. Answers are worked out by hand. */
final class PromiseTest {
    private static final int NONE = OneStatement.NONE;
    private static final int MIN = Integer.MIN_VALUE;
    private static final int MAX = Integer.MAX_VALUE;

    /** Three in a ring of hearing; 0 has 1 and 3 behind it, 4 has 2. */
    private static final String RING = "person 5;person 0;person 12;worth 0 4;worth 1 2;worth 2 7;worth 5 0;"
        + "follows 0 1;follows 1 3;follows 4 2;knows 0 0;knows 1 4;knows 2 3;hears 1 0;hears 2 1;hears 0 2;";
    private static final String DEEDS = "ask 1 5;tell 0 0;ask 1 5;sell 2 0 5;eve;tell 1 0;see 0 5;tell 0 5;tell 1 2;";
    private static final String LOG = "told 1;asked 2;";
    /** Five of whom nobody hears the last two; two facts in a ring. */
    private static final String STAR = "person 1;person 2;person 3;person 3;person 0;follows 0 1;follows 1 0;follows 2 0;"
        + "knows 0 2;knows 1 3;knows 2 3;knows 3 4;hears 1 0;hears 2 0;hears 3 1;hears 3 2;hears 4 3;hears 4 0;";

    private static OneStatement x;

    public static void main(String[] args) {
        newObject();
        tape();
        texts();
        faultsOfTowns();
        faultsOfYears();
        faultsOfLogs();
        town();
        deed();
        till();
        state();
        rulesOfDeeds();
        tellings();
        message();
        bell();
        weddings();
        code();
        save();
        byTurns();
        fact();
        fits();
        drawn();
        roots();
        chain();
        reach();
        learnt();
        best();
        sales();
        luck();
        after();
        share();
        fewest();
        count();
        images();
        Check.finish();
    }

    private static void due(String call, long got, long want) {
        Check.due(call, got, want);
    }

    // ---- promises 1 to 5

    private static void newObject() {
        x = new OneStatement();
        due("NONE", NONE, -1);
        for (int sort = 0; sort < 3; sort++) {
            due("new: count", x.count(sort), 0);
        }
        due("new: fault(0)", x.fault(0), 0);
        due("new: fault(1)", x.fault(1), NONE);
        due("new: end(0)", x.end(0), 0);
        due("new: end(1)", x.end(1), NONE);
        due("new: town", x.town(0, 0), NONE);
        due("new: deed", x.deed(0, NONE, 0), -2);
        due("new: fact", x.fact(0, NONE, 0), -2);
        for (int k = 0; k < 3; k++) {
            Check.due("new: again", x.again(k), false);
        }
    }

    private static void tape() {
        x = new OneStatement();
        for (int n = 20; n <= 600; n += 20) {
            due("feed", x.feed(0, 0, 0, 0, 0), n);
        }
        due("feed beyond 600", x.feed(0, 0, 0, 0, 0), NONE);
        due("end(601)", x.end(601), NONE);
        due("end(600)", x.end(600), 600);
        due("end(581)", x.end(581), 581);
        due("feed to 601", x.feed(0, 0, 0, 0, 0), NONE);
        due("nothing came", x.end(582), NONE);
        due("end(580)", x.end(580), 580);
        due("feed to 600", x.feed(0, 0, 0, 0, 0), 600);
        due("end(-1)", x.end(-1), NONE);
        due("end(MIN)", x.end(MIN), NONE);
        due("end(MAX)", x.end(MAX), NONE);
        due("end(0)", x.end(0), 0);
        due("the highest byte first", x.feed(0x65766500 | ';', 0x65766520, 0x3b202020, 0x20202020, 0x20202020), 20);
        due("two eves", x.text(1, NONE), 0);
        due("two eves", x.deed(0, NONE, 0), 2);
        due("text empties the tape", x.end(1), NONE);
        x.feed(0x65766500 | ';', -1, -1, -1, -1);
        due("the rest is cut", x.end(4), 4);
        due("one eve", x.text(1, NONE), 1);
        due("one eve", x.deed(1, NONE, 0), 1);
        Check.tell(x, 1, 1, "eve;");
        Check.feed(x, 0, "eve;");
        Check.feed(x, 4, "eve;");
        due("feeds come behind", x.text(1, 0), 0);
        due("feeds come behind", x.deed(0, NONE, 0), 2);
    }

    private static void texts() {
        x = new OneStatement();
        due("first town", Check.tell(x, 0, NONE, RING), 0);
        due("second town", Check.tell(x, 0, NONE, STAR), 1);
        due("no third", Check.tell(x, 0, NONE, "person 1"), -2);
        due("no fault then", x.fault(0), 0);
        due("no place then", x.fault(1), NONE);
        due("the tape is taken all the same", x.end(1), NONE);
        due("in the place of the first", Check.tell(x, 0, 0, "person 7;"), 0);
        due("people", x.town(0, 0), 1);
        due("the second stays", x.town(1, 0), 5);
        due("two towns", x.count(0), 2);
        due("a fault", Check.tell(x, 0, 1, "person 31;"), NONE);
        due("the old one stays", x.town(1, 0), 5);
        due("fault", x.fault(0), 2);
        due("place", x.fault(1), 7);
        due("fault(2)", x.fault(2), NONE);
        due("fault(-1)", x.fault(-1), NONE);
        due("the tape is empty", x.end(1), NONE);
        due("no year 0", Check.tell(x, 1, 0, "eve;"), -2);
        due("fault 0 again", x.fault(0), 0);
        due("a year of an empty tape", x.text(1, NONE), 0);
        due("no deed is left over", x.deed(0, NONE, 0), 0);
        refused("no year 1", 1, 1);
        refused("no third town", 0, NONE);
        refused("sort 3", 3, NONE);
        refused("sort -1", -1, NONE);
        refused("sort MAX", MAX, 0);
        refused("at -2", 0, -2);
        refused("at 2", 0, 2);
        refused("at MIN", 0, MIN);
        due("two towns still", x.count(0), 2);
        due("one year still", x.count(1), 1);
        due("an empty log", Check.tell(x, 2, NONE, ""), 0);
        due("an empty log", x.fact(0, NONE, 0), 0);
        due("a further log", Check.tell(x, 2, NONE, " \n "), 1);
        due("no third log", Check.tell(x, 2, NONE, ""), -2);
        due("an empty year", Check.tell(x, 1, NONE, ""), 1);
        due("no third year", Check.tell(x, 1, NONE, ""), -2);
        due("an empty town", Check.tell(x, 0, 0, ""), 0);
        due("an empty town", x.town(0, 0), 0);
    }

    /** No text is read, so that what would be a FAULT is none; the tape is taken. */
    private static void refused(String why, int sort, int at) {
        Check.tell(x, 1, 0, "told 1;");
        due("a fault ahead", x.fault(0), 1);
        due(why, Check.tell(x, sort, at, "told"), -2);
        due(why + ": fault", x.fault(0), 0);
        due(why + ": place", x.fault(1), NONE);
        due(why + ": the tape is empty", x.feed(0, 0, 0, 0, 0), 20);
    }

    private static void faulty(int sort, String text, int fault, int place) {
        x = new OneStatement();
        due("<" + text + ">", Check.tell(x, sort, NONE, text), fault == 0 ? 0 : NONE);
        due("fault of <" + text + ">", x.fault(0), fault);
        due("place of <" + text + ">", x.fault(1), fault == 0 ? NONE : place);
        due("count of <" + text + ">", x.count(sort), fault == 0 ? 1 : 0);
    }

    private static void faultsOfTowns() {
        faulty(0, "person5;\nperson\n05 ; worth0 20;", 0, 0);
        faulty(0, "person 5", 1, 8);
        faulty(0, "person 5  ", 1, 10);
        faulty(0, "person", 1, 6);
        faulty(0, "person ;", 1, 7);
        faulty(0, "person 5;;", 1, 9);
        faulty(0, "person 5 6;", 1, 9);
        faulty(0, "person 005;", 1, 7);
        faulty(0, "person 5;persons 5;", 1, 9);
        faulty(0, "person 5;perso 5;", 1, 9);
        faulty(0, "Person 5;", 1, 0);
        faulty(0, "person\t5;", 1, 6);
        faulty(0, "person 5;\u00e9", 1, 9);
        faulty(0, "person 5;\u0000", 1, 9);
        faulty(0, "person -5;", 1, 7);
        faulty(0, " eve;", 1, 1);
        faulty(0, "told 1;", 1, 0);
        faulty(0, "5;", 1, 0);
        faulty(0, "worth 0;", 1, 7);
        faulty(0, "person 31;worth", 1, 15);
        faulty(0, "person 30;", 0, 0);
        faulty(0, "person 31;", 2, 7);
        faulty(0, "worth 6 0;", 2, 6);
        faulty(0, "worth 0 21;", 2, 8);
        faulty(0, "worth 5 20;", 0, 0);
        faulty(0, "worth 6 21;", 2, 6);
        faulty(0, "follows 6 1;", 2, 8);
        faulty(0, "follows 1 6;", 2, 10);
        faulty(0, "follows 1 1;", 2, 10);
        faulty(0, "knows 6 0;", 2, 6);
        faulty(0, "knows 0 6;", 2, 8);
        faulty(0, "hears 6 0;", 2, 6);
        faulty(0, "hears 0 6;", 2, 8);
        faulty(0, "hears 0 0;", 2, 8);
        faulty(0, "hears 0 0;person 31;", 2, 8);
        faulty(0, "knows 0 0;", 4, 10);
        faulty(0, "knows 0 0; \n", 4, 12);
        faulty(0, "knows 0 0;person 1;", 0, 0);
        faulty(0, "person 0;hears 0 1;", 4, 19);
        faulty(0, "person 0;hears 1 0;", 4, 19);
        faulty(0, "person 0;hears 1 0;worth 0 21;", 2, 27);
        String six = "person 1;person 2;person 3;person 4;person 5;person 6;";
        faulty(0, six + "knows 5 5;hears 5 4;", 0, 0);
        faulty(0, six + "person 7;", 3, 54);
        faulty(0, six + "person 31;", 3, 54);
        faulty(0, six + "worth 6 1;person 7;", 2, 60);
        faulty(0, six + "person 7;worth 6 1;", 3, 54);
        faulty(0, six + "person 7;x", 1, 63);
    }

    private static void faultsOfYears() {
        faulty(1, "tell 5 5;ask 5 5;see 0 0;sell 5 0 30;eve;", 0, 0);
        faulty(1, "tell 6 0;", 2, 5);
        faulty(1, "ask 0 6;", 2, 6);
        faulty(1, "see 6 6;", 2, 4);
        faulty(1, "sell 0 0 1;", 2, 7);
        faulty(1, "sell 0 6 1;", 2, 7);
        faulty(1, "sell 6 6 1;", 2, 5);
        faulty(1, "sell 0 1 31;", 2, 9);
        faulty(1, "see 0 0", 1, 7);
        faulty(1, "sell 0 1;", 1, 8);
        faulty(1, "eve 1;", 1, 4);
        faulty(1, "eve", 1, 3);
        faulty(1, "evez;", 1, 0);
        faulty(1, "zeve;", 1, 0);
        faulty(1, "person 1;", 1, 0);
        faulty(1, "asked 1;", 1, 0);
        faulty(1, "tell 6 0;eve", 1, 12);
        String forty = "eve;".repeat(40);
        faulty(1, forty, 0, 0);
        faulty(1, forty + "eve;", 3, 160);
        faulty(1, forty + "tell 6 0;", 3, 160);
        faulty(1, "tell 6 0;" + forty, 2, 5);
        faulty(1, forty + forty + forty + "eve;".repeat(30), 3, 160);
        faulty(1, forty + "eve; eve", 1, 168);
    }

    private static void faultsOfLogs() {
        faulty(2, "asked 5;told0;", 0, 0);
        faulty(2, "asked 6;", 2, 6);
        faulty(2, "told 10;", 2, 5);
        faulty(2, "told;", 1, 4);
        faulty(2, "tell 0;", 1, 0);
        faulty(2, "told 0 0;", 1, 7);
        String eight = "told 0;".repeat(8);
        faulty(2, eight, 0, 0);
        faulty(2, eight + " told 0;", 3, 57);
        faulty(2, eight + "told 6;", 3, 56);
    }

    // ---- promises 6 to 9

    private static void town() {
        x = Check.with(RING, null, null);
        int[][] dues = {{4, 2, 7, 1, 1, 0}, {10, 8, 0, 0, 4, 0}, {5, 0, 12}, {11, 20, 8}, {4, 1, 2}};
        due("people", x.town(0, 0), 3);
        for (int group = 1; group <= 5; group++) {
            for (int k = 0; k < 10; k++) {
                int want = k < dues[group - 1].length ? dues[group - 1][k] : NONE;
                due("town " + group + " " + k, x.town(0, 10 * group + k), want);
            }
        }
        for (int what : new int[] {-1, 1, 9, 60, 61, MIN, MAX, -10}) {
            due("town what " + what, x.town(0, what), NONE);
        }
        due("no town 1", x.town(1, 0), NONE);
        due("no town -1", x.town(-1, 0), NONE);
        due("no town MAX", x.town(MAX, 10), NONE);
        Check.tell(x, 0, NONE, "worth 0 3;worth 0 4;follows 0 1;follows 1 2;follows 2 0;follows 2 3;");
        due("later worths strike", x.town(1, 10), 4);
        due("worth at first", x.town(1, 11), 1);
        due("a ring follows from itself", x.town(1, 20), 15);
        due("a ring follows from itself", x.town(1, 22), 15);
        due("no further", x.town(1, 23), 0);
        due("nobody", x.town(1, 30), NONE);
        x = Check.with("knows 1 0;hears 1 0;hears 1 2;knows 1 4;person 1;person 2;person 3;follows 4 5;", null, null);
        due("further ones", x.town(0, 41), 49);
        due("further ones", x.town(0, 51), 5);
        due("cows of the third", x.town(0, 32), 3);
    }

    private static void deed() {
        x = Check.with(null, "tell 1 2;ask 3 4;see 5 0;sell 4 3 30;eve;", null);
        int[][] dues = {{0, 1, 2, NONE}, {1, 3, 4, NONE}, {2, 5, 0, NONE}, {3, 4, 3, 30}, {4, NONE, NONE, NONE}};
        due("deeds", x.deed(0, NONE, 0), 5);
        for (int k = 0; k < 5; k++) {
            for (int what = 0; what < 4; what++) {
                due("deed " + k + " " + what, x.deed(0, k, what), dues[k][what]);
            }
            due("deed what 4", x.deed(0, k, 4), -2);
            due("deed what -1", x.deed(0, k, -1), -2);
        }
        due("deed 5", x.deed(0, 5, 0), -2);
        due("deed -2", x.deed(0, -2, 0), -2);
        due("deed NONE what 1", x.deed(0, NONE, 1), -2);
        due("year 1", x.deed(1, NONE, 0), -2);
        due("year -1", x.deed(-1, 0, 0), -2);
        due("deed MAX", x.deed(0, MAX, MAX), -2);
    }

    private static void till() {
        x = Check.with(RING, DEEDS, null);
        due("till", x.till(0, 0), 8);
        due("till, no town", x.till(1, 0), NONE);
        due("till, no year", x.till(0, 1), NONE);
        due("till, none", x.till(-1, MAX), NONE);
        Check.tell(x, 1, NONE, "eve;ask 0 0;see 1 1;");
        due("all can be", x.till(0, 1), 3);
        Check.tell(x, 0, NONE, "");
        due("nobody there", x.till(1, 1), 1);
        due("nobody there", x.till(1, 0), 0);
    }

    private static void state(int n, int[] all, int[] statements, int[] cows, int[] known, int[] suspected) {
        for (int what = 0; what < 3; what++) {
            due("state " + n + " " + what, x.state(0, 0, n, what), all[what]);
        }
        for (int p = 0; p < statements.length; p++) {
            due("statements " + n + " " + p, x.state(0, 0, n, 10 + p), statements[p]);
            due("cows " + n + " " + p, x.state(0, 0, n, 20 + p), cows[p]);
            due("known " + n + " " + p, x.state(0, 0, n, 30 + p), known[p]);
            due("suspected " + n + " " + p, x.state(0, 0, n, 40 + p), suspected[p]);
        }
    }

    private static int[] row(int... numbers) {
        return numbers;
    }

    private static void state() {
        x = Check.with(RING, DEEDS, null);
        state(0, row(0, 0, 0), row(1, 1, 1), row(5, 0, 12), row(11, 20, 8), row(0, 0, 0));
        state(1, row(0, 0, 0), row(1, 1, 1), row(5, 0, 12), row(11, 20, 8), row(0, 0, 32));
        state(2, row(0, 1, 0), row(0, 1, 1), row(5, 0, 12), row(11, 31, 8), row(0, 0, 32));
        state(3, row(0, 1, 0), row(0, 1, 1), row(5, 0, 12), row(11, 31, 40), row(0, 0, 0));
        state(4, row(0, 1, 0), row(1, 1, 0), row(0, 0, 17), row(11, 31, 40), row(0, 0, 0));
        state(5, row(1, 1, 2), row(1, 1, 1), row(0, 0, 17), row(11, 31, 40), row(0, 0, 0));
        state(6, row(1, 2, 2), row(1, 0, 1), row(0, 0, 17), row(11, 31, 43), row(0, 0, 0));
        state(8, row(1, 3, 2), row(0, 0, 1), row(0, 0, 17), row(43, 63, 43), row(0, 0, 0));
        due("no state 9", x.state(0, 0, 9, 0), NONE);
        due("no state 10", x.state(0, 0, 10, 0), NONE);
        due("no state -1", x.state(0, 0, -1, 0), NONE);
        due("no state MIN", x.state(0, 0, MIN, 0), NONE);
        for (int what : new int[] {-1, 3, 9, 13, 16, 23, 33, 43, 50, MIN, MAX, -10, -20}) {
            due("state what " + what, x.state(0, 0, 0, what), NONE);
        }
        due("no town", x.state(1, 0, 0, 0), NONE);
        due("no year", x.state(0, 1, 0, 0), NONE);
    }

    private static int till(String town, String year) {
        x = Check.with(town, year, null);
        return x.till(0, 0);
    }

    private static void rulesOfDeeds() {
        String two = "person 30;person 30;knows 0 0;hears 1 0;follows 0 1;";
        due("he does not know it", till(two, "tell 0 2;"), 0);
        due("what follows may be told", till(two, "tell 0 1;"), 1);
        due("he has no statement", till(two, "tell 0 0;tell 0 0;"), 1);
        due("an eve gives one", till(two, "tell 0 0;eve;tell 0 0;"), 3);
        due("none is saved", till(two, "eve;tell 0 0;tell 0 0;"), 2);
        due("asking needs no statement", till(two, "tell 0 0;ask 0 0;ask 0 3;"), 3);
        due("no such teller", till(two, "tell 2 0;"), 0);
        due("no such asker", till(two, "ask 2 0;"), 0);
        due("no such seer", till(two, "see 2 0;"), 0);
        due("no such seller", till(two, "sell 2 0 0;"), 0);
        due("no such buyer", till(two, "sell 0 2 0;"), 0);
        due("two for one", till(two, "sell 1 0 30;tell 0 0;tell 0 1;tell 0 0;"), 3);
        due("sold is gone", till(two, "sell 1 0 0;sell 1 0 0;"), 1);
        due("not so many cows", till(two, "sell 1 0 30;sell 0 1 30;sell 1 0 1;"), 2 + 1);
        due("not so many cows", till("person 4;person 5;", "sell 1 0 5;"), 0);
        due("just so many cows", till("person 4;person 5;", "sell 1 0 4;"), 1);
        due("cows", x.state(0, 0, 1, 20), 0);
        due("cows", x.state(0, 0, 1, 21), 9);
        due("statements", x.state(0, 0, 1, 10), 2);
        due("statements", x.state(0, 0, 1, 11), 0);
        due("99 at most", till("person 30;person 30;person 30;person 30;",
            "sell 0 1 30;eve;sell 0 2 30;eve;sell 0 3 30;eve;"), 6);
        due("99 at most", x.state(0, 0, 4, 20), 90);
        due("99 at most", x.state(0, 0, 6, 20), 99);
        due("the buyer gives all", x.state(0, 0, 6, 23), 0);
        due("lost", x.state(0, 0, 6, 2), 12);
        due("see takes suspicion", till(two, "ask 0 2;ask 0 1;see 1 0;"), 3);
        due("suspects", x.state(0, 0, 2, 41), 6);
        due("suspects no more", x.state(0, 0, 3, 41), 4);
        due("telling takes suspicion", till(two, "ask 0 1;tell 0 0;"), 2);
        due("suspects no more", x.state(0, 0, 2, 41), 0);
        due("knows", x.state(0, 0, 2, 31), 3);
        due("an eve takes suspicion", till(two, "ask 0 2;eve;ask 0 2;ask 0 2;"), 4);
        due("suspects anew", x.state(0, 0, 3, 41), 4);
        due("knows not yet", x.state(0, 0, 3, 31), 0);
        due("knows", x.state(0, 0, 4, 31), 4);
        due("guessing brings what follows", till(two, "ask 0 0;ask 0 0;"), 2);
        due("knows", x.state(0, 0, 2, 31), 3);
        due("the asker is not heard by himself", x.state(0, 0, 1, 40), 0);
        due("who knows does not suspect", till(two, "see 1 5;ask 0 5;"), 2);
        due("suspects nothing", x.state(0, 0, 2, 41), 0);
    }

    // ---- promises 10 to 16

    private static void tellings() {
        x = Check.with(RING, null, null);
        due("tellings", x.tellings(0, 0, NONE), 2);
        due("tellings 0", x.tellings(0, 0, 0), 0);
        due("tellings 1", x.tellings(0, 0, 1), 1);
        due("tellings 2", x.tellings(0, 0, 2), NONE);
        due("tellings -2", x.tellings(0, 0, -2), NONE);
        due("one is enough", x.tellings(0, 3, NONE), 1);
        due("one is enough", x.tellings(0, 3, 0), 0);
        due("nobody knows", x.tellings(0, 5, NONE), NONE);
        due("nobody knows", x.tellings(0, 5, 0), NONE);
        due("no fact 6", x.tellings(0, 6, NONE), NONE);
        due("no fact -1", x.tellings(0, -1, NONE), NONE);
        due("no town", x.tellings(1, 0, NONE), NONE);
        Check.tell(x, 0, 0, "");
        due("nobody is there: all know", x.tellings(0, 0, NONE), 0);
        due("nobody tells", x.tellings(0, 0, 0), NONE);
        Check.tell(x, 0, 0, "person 0;knows 0 5;");
        due("he knows", x.tellings(0, 5, NONE), 0);
        Check.tell(x, 0, 0, "person 0;person 0;person 0;person 0;knows 3 0;knows 2 0;hears 0 2;hears 1 3;hears 0 3;hears 1 2;");
        due("of two the first", x.tellings(0, 0, NONE), 1);
        due("of two the first", x.tellings(0, 0, 0), 2);
        Check.tell(x, 0, 0, STAR);
        due("star", x.tellings(0, 2, NONE), 2);
        due("star", x.tellings(0, 2, 0), 0);
        due("star", x.tellings(0, 2, 1), 1);
        due("0 hears nobody", x.tellings(0, 4, NONE), NONE);
    }

    private static void message() {
        x = Check.with(RING, null, null);
        due("message", x.message(0, 0, 0), 0);
        due("message", x.message(0, 0, 1), 1);
        due("message", x.message(0, 0, 2), 2);
        due("message", x.message(0, 4, 0), 2);
        due("by none", x.message(0, 5, 0), NONE);
        due("no fact", x.message(0, 6, 0), NONE);
        due("no fact", x.message(0, -1, 0), NONE);
        due("nobody", x.message(0, 0, 3), NONE);
        due("nobody", x.message(0, 0, -1), NONE);
        due("nobody", x.message(0, 0, 32), NONE);
        due("no fact", x.message(0, 32, 0), NONE);
        due("no town", x.message(1, 0, 0), NONE);
        Check.tell(x, 0, 0, STAR);
        due("of two knowers the nearer", x.message(0, 3, 3), 1);
        due("star", x.message(0, 1, 4), 1);
        due("star", x.message(0, 3, 4), 2);
        due("star", x.message(0, 3, 0), NONE);
    }

    private static void bell() {
        x = Check.with(RING, null, null);
        due("bell", x.bell(0, NONE), 15);
        due("bell 0", x.bell(0, 0), 0);
        due("bell 1", x.bell(0, 1), 4);
        due("bell 2", x.bell(0, 2), 3);
        due("bell 3", x.bell(0, 3), NONE);
        due("bell -2", x.bell(0, -2), NONE);
        due("no town", x.bell(1, NONE), NONE);
        Check.tell(x, 0, 0, "");
        due("nobody", x.bell(0, NONE), 0);
        due("nobody", x.bell(0, 0), NONE);
        Check.tell(x, 0, 0, "person 0;person 0;person 0;knows 0 0;knows 0 1;knows 1 0;knows 1 1;hears 2 0;hears 2 1;");
        due("not the same twice", x.bell(0, NONE), 2);
        due("not the same twice", x.bell(0, 0), 0);
        due("not the same twice", x.bell(0, 1), 1);
        due("he knows nothing", x.bell(0, 2), 6);
        Check.tell(x, 0, 0, "worth 0 0;person 0;person 0;knows 0 5;knows 0 0;knows 1 3;");
        due("nobody hears", x.bell(0, NONE), 0);
        due("the least is told", x.bell(0, 0), 0);
        due("the least is told", x.bell(0, 1), 3);
        Check.tell(x, 0, 0, "person 0;person 0;person 0;knows 0 0;hears 1 0;hears 2 1;");
        due("all at once: 2 hears nothing", x.bell(0, NONE), 1);
        due("1 knows nothing yet", x.bell(0, 1), 6);
    }

    private static void weddings() {
        x = Check.with(RING, null, null);
        due("weddings", x.weddings(0, NONE), 5);
        due("weddings 0", x.weddings(0, 0), 1);
        due("weddings 1", x.weddings(0, 1), 0);
        due("weddings 2", x.weddings(0, 2), 6);
        due("weddings 3", x.weddings(0, 3), NONE);
        due("weddings -2", x.weddings(0, -2), NONE);
        due("no town", x.weddings(1, NONE), NONE);
        Check.tell(x, 0, 0, "");
        due("nobody", x.weddings(0, NONE), 0);
        Check.tell(x, 0, 0, "person 0;");
        due("one alone", x.weddings(0, 0), 6);
        Check.tell(x, 0, 0, "person 0;person 0;person 0;");
        due("nothing known", x.weddings(0, NONE), 0);
        due("0 weds 1 all the same", x.weddings(0, 0), 1);
        due("2 nobody", x.weddings(0, 2), 6);
        Check.tell(x, 0, 0, "person 0;person 0;person 0;person 0;knows 0 0;knows 1 0;knows 2 1;knows 3 1;");
        due("unlike ones", x.weddings(0, NONE), 4);
        due("unlike ones", x.weddings(0, 0), 2);
        due("unlike ones", x.weddings(0, 1), 3);
        due("unlike ones", x.weddings(0, 2), 0);
        due("unlike ones", x.weddings(0, 3), 1);
    }

    private static void code() {
        x = Check.with(RING, null, null);
        due("code", x.code(0), 30);
        due("no town", x.code(1), NONE);
        due("no town", x.code(-1), NONE);
        Check.tell(x, 0, 0, "");
        due("all alike", x.code(0), 16);
        Check.tell(x, 0, 0, "worth 0 0;worth 1 0;worth 2 0;worth 3 0;worth 4 0;worth 5 7;");
        due("one of worth", x.code(0), 7);
        Check.tell(x, 0, 0, "worth 0 0;worth 5 0;worth 1 0;worth 2 0;worth 3 0;worth 4 0;");
        due("none of worth", x.code(0), 0);
        Check.tell(x, 0, 0, "worth 0 1;worth 1 1;worth 2 2;worth 3 4;worth 4 8;worth 5 16;");
        due("one behind the other", x.code(0), 2 + 4 + 8 + 16 + 32);
    }

    private static void save(int m, int n, long over, long under, long least) {
        due("save over " + m + " " + n, x.save(m, n, 0), over);
        due("save under " + m + " " + n, x.save(m, n, 1), under);
        due("save least " + m + " " + n, x.save(m, n, 2), least);
    }

    private static void save() {
        x = new OneStatement();
        save(6, 1, 7, 2, 1);
        save(6, 2, 17, 4, 4);
        save(6, 3, 14, 3, 5);
        save(1, 9, 1, 1, 1);
        save(3, 1, 2, 1, 1);
        save(3, 2, 7, 3, 2);
        save(2, 2, 7, 4, 2);
        save(2, 9, 1023, 512, 2);
        for (int what = 0; what < 3; what++) {
            due("m 0", x.save(0, 1, what), NONE);
            due("m 7", x.save(7, 1, what), NONE);
            due("n 0", x.save(1, 0, what), NONE);
            due("n 10", x.save(1, 10, what), NONE);
            due("wild", x.save(MIN, MAX, what), NONE);
        }
        due("what 3", x.save(1, 1, 3), NONE);
        due("what -1", x.save(1, 1, -1), NONE);
    }

    private static void turns(int n, int lead, int first) {
        due("turns " + n, x.byTurns(0, n, false), lead);
        due("first of turns " + n, x.byTurns(0, n, true), first);
    }

    private static void byTurns() {
        x = Check.with(RING, null, null);
        turns(0, 0, NONE);
        turns(1, 8, 14);
        // 1 tells 2 (7), then 0 tells 0, or 2 tells 2 (7)
        turns(2, 0, 12);
        // and then he who has not told tells what is worth 7
        turns(3, 7, 12);
        turns(4, -999, -999);
        turns(-1, -999, -999);
        due("no town", x.byTurns(1, 0, false), -999);
        Check.tell(x, 0, 0, "");
        turns(1, 0, 99);
        turns(3, 0, 99);
        Check.tell(x, 0, 0, "person 0;person 0;hears 0 1;hears 1 0;");
        turns(2, 0, 99);
        Check.tell(x, 0, 0, "person 0;person 0;knows 0 2;knows 0 3;knows 1 2;knows 1 3;hears 0 1;");
        turns(2, 0, 2);
        turnsByWhoHears();
    }

    private static void turnsByWhoHears() {
        Check.tell(x, 0, 0, "person 0;person 0;knows 1 2;knows 1 3;");
        turns(1, 0, 12);
        turns(3, 0, 12);
        Check.tell(x, 0, 0, "person 0;person 0;knows 1 2;knows 1 3;hears 1 0;");
        turns(1, 0, 12);
        Check.tell(x, 0, 0, "person 0;person 0;knows 1 2;knows 1 3;hears 0 1;");
        turns(1, 1, 12);
        // 1 HEARS 0, 2 HEARS 1: what 0 told is KNOWN by 1, who tells it to 2
        Check.tell(x, 0, 0, "person 0;person 0;person 0;knows 0 0;hears 1 0;hears 2 1;");
        turns(1, 1, 0);
        turns(2, 0, 0);
        turns(3, 0, 0);
        // 2 has not HEARD 0, so that 2 can't tell it to the four who HEAR 2
        String four = "person 0;person 0;person 0;person 0;person 0;person 0;knows 0 0;hears 1 0;"
            + "hears 1 2;hears 3 2;hears 4 2;hears 5 2;";
        Check.tell(x, 0, 0, four);
        turns(1, 1, 0);
        turns(2, 1, 0);
        Check.tell(x, 0, 0, four + "hears 2 0;");
        turns(1, 2, 0);
        turns(2, -1, 0);
        // each HEARS all: 1 tells fact 1 to two (10), then 0 fact 0 to two (2)
        Check.tell(x, 0, 0, "person 0;person 0;person 0;worth 0 1;worth 1 5;knows 0 0;knows 1 1;"
            + "hears 0 1;hears 0 2;hears 1 0;hears 1 2;hears 2 0;hears 2 1;");
        turns(1, 10, 11);
        turns(2, 8, 11);
    }

    // ---- promises 17 to 19

    private static void fact() {
        x = Check.with(null, null, "asked 3;told 5;");
        due("lines", x.fact(0, NONE, 0), 2);
        due("asked", x.fact(0, 0, 0), 0);
        due("asked 3", x.fact(0, 0, 1), 3);
        due("told", x.fact(0, 1, 0), 1);
        due("told 5", x.fact(0, 1, 1), 5);
        due("line 2", x.fact(0, 2, 0), -2);
        due("line -2", x.fact(0, -2, 0), -2);
        due("NONE, what 1", x.fact(0, NONE, 1), -2);
        due("what 2", x.fact(0, 0, 2), -2);
        due("what -1", x.fact(0, 0, -1), -2);
        due("log 1", x.fact(1, NONE, 0), -2);
        due("log -1", x.fact(-1, 0, 0), -2);
    }

    private static void fits() {
        x = Check.with(RING, null, LOG);
        int[] dues = {4, 10, 0, 1, -2, -2, -2, -2, -2, -2, 10, 11, 42, 43, -2};
        for (int what = 0; what < dues.length; what++) {
            due("fits " + what, x.fits(0, 0, what), dues[what]);
        }
        due("fits -1", x.fits(0, 0, -1), -2);
        due("fits MAX", x.fits(0, 0, MAX), -2);
        due("fits MIN", x.fits(0, 0, MIN), -2);
        due("no town", x.fits(1, 0, 0), -2);
        due("no log", x.fits(0, 1, 0), -2);
        Check.tell(x, 2, NONE, "asked 3;told 0;");
        due("nothing fits", x.fits(0, 1, 0), 0);
        due("not sure", x.fits(0, 1, 1), NONE);
        due("no next", x.fits(0, 1, 2), NONE);
        due("nobody's", x.fits(0, 1, 3), 0);
        due("no first", x.fits(0, 1, 10), -2);
        Check.tell(x, 2, 1, "");
        due("all closed sets", x.fits(0, 1, 0), 24);
        due("the first is empty", x.fits(0, 1, 10), 0);
        due("the last is all", x.fits(0, 1, 33), 63);
        due("no more", x.fits(0, 1, 34), -2);
        due("everybody's", x.fits(0, 1, 3), 7);
        due("by 1 or 5, half have it", x.fits(0, 1, 2), 1);
        Check.tell(x, 0, NONE, "person 0;");
        due("64 sets", x.fits(1, 1, 0), 64);
        due("the 64th", x.fits(1, 1, 73), 63);
        due("no 65th", x.fits(1, 1, 74), -2);
        due("asked by who knows nothing", x.fits(1, 1, 3), 1);
        Check.tell(x, 2, 1, "told 0;told 0;asked 0;");
        due("told and asked", x.fits(1, 1, 0), 0);
        Check.tell(x, 2, 1, "told 0;told 5;");
        due("sure", x.fits(1, 1, 1), 33);
        due("sure by what follows", x.fits(0, 1, 1), 43);
    }

    private static void drawn(int seed, int n, int[] all, int[] statements, int[] cows, int[] known, int[] suspected) {
        for (int what = 0; what < 3; what++) {
            due("drawn " + seed + " " + what, x.drawn(0, seed, n, what), all[what]);
        }
        for (int p = 0; p < statements.length; p++) {
            due("drawn statements " + seed + " " + p, x.drawn(0, seed, n, 10 + p), statements[p]);
            due("drawn cows " + seed + " " + p, x.drawn(0, seed, n, 20 + p), cows[p]);
            due("drawn known " + seed + " " + p, x.drawn(0, seed, n, 30 + p), known[p]);
            due("drawn suspected " + seed + " " + p, x.drawn(0, seed, n, 40 + p), suspected[p]);
        }
    }

    private static void drawn() {
        x = Check.with(RING, null, null);
        drawn(9, 0, row(0, 0, 0), row(1, 1, 1), row(5, 0, 12), row(11, 20, 8), row(0, 0, 0));
        drawn(0, 12, row(2, 0, 6), row(1, 1, 1), row(10, 1, 6), row(15, 20, 8), row(0, 0, 0));
        drawn(7, 20, row(7, 3, 18), row(1, 1, 1), row(5, 0, 12), row(11, 31, 60), row(0, 0, 0));
        drawn(-5, 60, row(12, 6, 30), row(1, 1, 1), row(1, 0, 16), row(31, 31, 31), row(0, 0, 0));
        drawn(2026, 9, row(2, 1, 5), row(1, 1, 1), row(5, 0, 12), row(11, 28, 40), row(4, 0, 0));
        drawn(42, 14, row(1, 2, 2), row(0, 1, 1), row(0, 5, 12), row(15, 30, 8), row(0, 0, 2));
        due("n 61", x.drawn(0, 0, 61, 0), NONE);
        due("n -1", x.drawn(0, 0, -1, 0), NONE);
        due("no town", x.drawn(1, 0, 0, 0), NONE);
        for (int what : new int[] {-1, 3, 9, 13, 23, 33, 43, 50, MIN, MAX}) {
            due("drawn what " + what, x.drawn(0, 0, 5, what), NONE);
        }
        Check.tell(x, 0, 0, "");
        due("nobody: eves alone", x.drawn(0, 3, 60, 0), 8);
        due("nobody loses", x.drawn(0, 3, 60, 2), 0);
    }

    // ---- promises 20 to 26

    private static void whats(String name, int[] dues, int first) {
        for (int k = 0; k < dues.length; k++) {
            int what = first + k;
            due(name + " " + what, name.equals("roots") ? x.roots(0, what) : x.reach(0, what), dues[k]);
        }
    }

    private static void roots() {
        x = Check.with(RING, null, null);
        whats("roots", row(3, 49, 6, 1, 24, 4, 23, 32, 0, NONE, 7, 3, 7, 1, 8, 0, NONE), 0);
        due("roots -1", x.roots(0, -1), NONE);
        due("roots MAX", x.roots(0, MAX), NONE);
        due("roots MIN", x.roots(0, MIN), NONE);
        due("no town", x.roots(1, 0), NONE);
        Check.tell(x, 0, 0, STAR);
        whats("roots", row(4, 60, 5, 2, 24, 2, 23, 32, 0, NONE, 2, 2, 3, 1, 1, 1), 0);
        Check.tell(x, 0, 0, "follows 5 4;follows 4 3;follows 3 2;follows 2 1;follows 1 0;follows 0 5;");
        whats("roots", row(1, 1, 1, 6, 2, 0, 0, 63, 0, NONE, 6, 6, 6, 6, 6, 6), 0);
        Check.tell(x, 0, 0, "person 0;person 0;knows 0 1;knows 1 1;knows 1 2;");
        due("rare", x.roots(0, 6), 4);
        due("secret", x.roots(0, 7), 57);
        due("common", x.roots(0, 8), 2);
        Check.tell(x, 0, 0, "follows 2 0;follows 3 0;follows 4 5;");
        due("roots of several ways up", x.roots(0, 1), 30);
    }

    private static void chain(String town, int... dues) {
        x = Check.with(town, null, null);
        due("chain of " + town, x.chain(0, NONE), dues.length);
        for (int k = 0; k < dues.length; k++) {
            due("chain " + k + " of " + town, x.chain(0, k), dues[k]);
        }
        due("no more", x.chain(0, dues.length), NONE);
    }

    private static void chain() {
        chain(RING, 0, 1, 3);
        chain("", 0);
        chain(STAR, 2, 0, 1);
        chain("follows 5 3;follows 4 3;", 4, 3);
        chain("follows 0 5;follows 5 0;follows 5 1;", 0, 5, 1);
        chain("follows 5 4;follows 4 3;follows 3 2;follows 2 1;follows 1 0;follows 0 5;", 0, 1, 2, 3, 4, 5);
        due("chain -2", x.chain(0, -2), NONE);
        due("chain 7", x.chain(0, 7), NONE);
        due("chain MAX", x.chain(0, MAX), NONE);
        due("no town", x.chain(1, NONE), NONE);
    }

    private static void reach() {
        x = Check.with(RING, null, null);
        whats("reach", row(0, 0, 1, 1, 0, 2, 3, -2, -2, -2, 7, 7, 7, -2), 0);
        due("reach -1", x.reach(0, -1), -2);
        due("reach MAX", x.reach(0, MAX), -2);
        due("reach MIN", x.reach(0, MIN), -2);
        due("no town", x.reach(1, 0), -2);
        Check.tell(x, 0, 0, "");
        whats("reach", row(NONE, 0, 0, 0, 0, 0, 0, -2, -2, -2, -2), 0);
        // 0 is heard by 1, 2, 4; 1 and 2 by 3; 3 by 4; all but 4 are heard, 0 alone hears nobody
        Check.tell(x, 0, 0, STAR);
        whats("reach", row(0, 1, 3, 22, 1, 3, 11, -2, -2, -2, 31, 26, 28, 24, 16, -2), 0);
        Check.tell(x, 0, 0, "person 0;person 0;person 0;hears 0 2;hears 1 2;");
        whats("reach", row(2, 4, 2, 3, 3, 0, 0, -2, -2, -2, 1, 2, 7, -2), 0);
    }

    private static void learnt() {
        x = Check.with(RING, null, null);
        due("learnt", x.learnt(0, 0, 0), 7);
        due("learnt", x.learnt(0, 0, 1), 3);
        due("learnt", x.learnt(0, 0, 3), 1);
        due("learnt", x.learnt(0, 1, 2), 7);
        due("learnt", x.learnt(0, 1, 4), 8);
        due("nothing new", x.learnt(0, 2, 3), 0);
        due("he does not know", x.learnt(0, 0, 2), NONE);
        due("no fact 6", x.learnt(0, 0, 6), NONE);
        due("no fact -1", x.learnt(0, 0, -1), NONE);
        due("no fact 32", x.learnt(0, 0, 32), NONE);
        due("nobody 3", x.learnt(0, 3, 0), NONE);
        due("nobody -1", x.learnt(0, -1, 0), NONE);
        due("no town", x.learnt(1, 0, 0), NONE);
        Check.tell(x, 0, 0, STAR);
        due("by three", x.learnt(0, 0, 2), 9);
        due("by three", x.learnt(0, 0, 0), 6);
    }

    private static void best() {
        x = Check.with(RING, null, null);
        int[][] dues = {{0, 7}, {4, 8}, {3, 0}, {-2, -2}};
        for (int p = 0; p < 4; p++) {
            due("best of " + p, x.best(0, p, false), dues[p][0]);
            due("how much of " + p, x.best(0, p, true), dues[p][1]);
        }
        due("nobody -1", x.best(0, -1, true), -2);
        due("no town", x.best(1, 0, false), -2);
        Check.tell(x, 0, 0, "person 0;person 0;knows 0 4;knows 0 3;hears 1 0;");
        due("of several the least", x.best(0, 0, false), 3);
        due("he knows none", x.best(0, 1, false), NONE);
        due("he knows none", x.best(0, 1, true), 0);
    }

    private static void sales() {
        x = Check.with(RING, null, null);
        due("sales", x.sales(0, NONE), 8);
        due("sales 0", x.sales(0, 0), 6);
        due("sales 1", x.sales(0, 1), 6);
        due("sales 2", x.sales(0, 2), 1);
        due("sales 3", x.sales(0, 3), NONE);
        due("sales -2", x.sales(0, -2), NONE);
        due("no town", x.sales(1, NONE), NONE);
        Check.tell(x, 0, 0, "");
        due("nobody", x.sales(0, NONE), 0);
        Check.tell(x, 0, 0, "person 0;person 0;");
        due("nothing to gain", x.sales(0, NONE), 0);
        due("nothing to gain", x.sales(0, 0), 6);
        // BESTS 0, 0, 3, 3: two couples, crossed or not
        Check.tell(x, 0, 0, "person 0;person 0;person 0;person 0;worth 0 3;worth 1 3;knows 2 0;knows 3 1;hears 0 2;hears 1 3;");
        due("two couples", x.sales(0, NONE), 6);
        due("two couples", x.sales(0, 0), 2);
        due("two couples", x.sales(0, 1), 3);
        due("who buys sells not", x.sales(0, 2), 6);
        due("who buys sells not", x.sales(0, 3), 6);
    }

    private static void luck(int person, long over, long under) {
        due("luck over of " + person, x.luck(0, person, false), over);
        due("luck under of " + person, x.luck(0, person, true), under);
    }

    private static void luck() {
        x = Check.with(RING, null, null);
        luck(0, 0, 1);
        luck(1, 1, 3);
        luck(2, 1, 3);
        luck(3, NONE, NONE);
        luck(-1, NONE, NONE);
        due("no town", x.luck(1, 0, true), NONE);
        // 0 hears 1 (who knows 3, one of them new), 2 (knows 2, both new), 3 (knows nothing): (1/3 + 1) / 4
        Check.tell(x, 0, 0, "person 0;person 0;person 0;person 0;knows 0 0;knows 0 1;knows 1 0;knows 1 1;knows 1 2;"
            + "knows 2 4;knows 2 5;hears 0 1;hears 0 2;hears 0 3;worth 4 0;worth 5 0;");
        luck(0, 1, 3);
        luck(1, 0, 1);
        Check.tell(x, 0, 0, "person 0;person 0;knows 1 0;knows 1 1;knows 1 2;knows 1 3;knows 1 4;knows 0 4;hears 0 1;");
        luck(0, 2, 5);
    }

    // ---- promises 27 to 32

    private static void after(String town, String year, int... dues) {
        x = Check.with(town, year, null);
        for (int what = 0; what < dues.length; what++) {
            due("after " + what + " of " + year, x.after(0, 0, what), dues[what]);
        }
        due("after 6", x.after(0, 0, 6), -2);
        due("after -1", x.after(0, 0, -1), -2);
        due("after, no town", x.after(1, 0, 0), -2);
        due("after, no year", x.after(0, 1, 0), -2);
    }

    private static void after() {
        after(RING, DEEDS, 1, 0, 2, 1, 0, 1);
        after(RING, "", NONE, NONE, 2, 1, NONE, 0);
        after("", "eve;eve;", NONE, NONE, NONE, NONE, NONE, 0);
        after("person 0;person 0;", "eve;", NONE, 0, 0, 0, NONE, 0);
        after("person 1;person 2;knows 1 5;knows 1 4;", "sell 0 1 2;eve;tell 1 5;eve;tell 1 4;eve;tell 1 4;",
            2, 0, 0, 1, 4, 0);
        after("person 0;person 0;person 0;hears 1 0;hears 2 0;", "ask 0 3;ask 0 3;ask 0 3;tell 0 3;tell 1 3;",
            NONE, NONE, 0, 1, NONE, 2);
        after("person 0;person 3;knows 1 5;", "sell 0 1 0;eve;", NONE, 1, 1, 1, NONE, 0);
    }

    private static void share(int log, int fact, long over, long under) {
        due("share over of " + fact, x.share(0, log, fact, false), over);
        due("share under of " + fact, x.share(0, log, fact, true), under);
    }

    private static void share() {
        x = Check.with(RING, null, LOG);
        share(0, 0, 1, 2);
        share(0, 1, 1, 1);
        share(0, 2, 0, 1);
        share(0, 5, 1, 2);
        share(0, 6, NONE, NONE);
        share(0, -1, NONE, NONE);
        share(1, 0, NONE, NONE);
        due("no town", x.share(1, 0, 0, true), NONE);
        Check.tell(x, 2, NONE, "asked 3;told 0;");
        share(1, 0, NONE, NONE);
        Check.tell(x, 2, 1, "");
        share(1, 0, 1, 4);
        share(1, 3, 3, 4);
        share(1, 2, 2, 3);
    }

    private static void fewest() {
        x = Check.with(RING, null, LOG);
        due("fewest", x.fewest(0, 0, false), 2);
        due("most", x.fewest(0, 0, true), 4);
        due("no town", x.fewest(1, 0, true), NONE);
        due("no log", x.fewest(0, 1, false), NONE);
        Check.tell(x, 2, NONE, "asked 3;told 0;");
        due("nothing fits", x.fewest(0, 1, false), NONE);
        due("nothing fits", x.fewest(0, 1, true), NONE);
        Check.tell(x, 2, 1, "");
        due("none at all", x.fewest(0, 1, false), 0);
        due("all", x.fewest(0, 1, true), 6);
        Check.tell(x, 2, 1, "asked 0;asked 1;asked 2;asked 3;asked 4;asked 5;");
        due("he knows nothing", x.fewest(0, 1, false), 0);
        due("he knows nothing", x.fewest(0, 1, true), 0);
    }

    private static void count() {
        x = Check.with(RING, DEEDS, null);
        due("towns", x.count(0), 1);
        due("years", x.count(1), 1);
        due("logs", x.count(2), 0);
        due("sort 3", x.count(3), -2);
        due("sort -1", x.count(-1), -2);
        due("sort MIN", x.count(MIN), -2);
        Check.tell(x, 0, NONE, "");
        due("towns", x.count(0), 2);
    }

    private static void images() {
        x = new OneStatement();
        Check.due("image 3", x.image(3), false);
        Check.due("image -1", x.image(-1), false);
        Check.due("image MAX", x.image(MAX), false);
        Check.due("again 0", x.again(0), false);
        Check.due("image 0 of nothing", x.image(0), true);
        Check.tell(x, 0, NONE, RING);
        Check.tell(x, 1, NONE, "eve");
        Check.feed(x, 0, "eve;told");
        Check.due("image 1", x.image(1), true);
        Check.due("again 2", x.again(2), false);
        x.end(0);
        Check.tell(x, 0, 0, STAR);
        Check.tell(x, 2, NONE, LOG);
        Check.tell(x, 0, NONE, "");
        Check.due("image 2", x.image(2), true);
        Check.due("again 1", x.again(1), true);
        due("the town is back", x.town(0, 0), 3);
        due("one town", x.count(0), 1);
        due("no second town", x.town(1, 0), NONE);
        due("no log", x.count(2), 0);
        due("the fault is back", x.fault(0), 1);
        due("its place is back", x.fault(1), 3);
        due("the tape is back", x.end(9), NONE);
        due("the tape is back", x.end(4), 4);
        due("an eve", x.text(1, NONE), 0);
        due("an eve", x.deed(0, 0, 0), 4);
        Check.due("again 2", x.again(2), true);
        due("five", x.town(0, 0), 5);
        due("two towns", x.count(0), 2);
        due("a log", x.fits(1, 0, 0), 16);
        due("no year", x.count(1), 0);
        Check.due("again 1 once more", x.again(1), true);
        due("the image's tape stayed as it was", x.end(8), 8);
        due("three", x.town(0, 0), 3);
        Check.due("again 0", x.again(0), true);
        due("nothing", x.count(0), 0);
        due("nothing", x.end(1), NONE);
        due("nothing", x.town(0, 0), NONE);
        due("no fault", x.fault(0), 0);
        Check.tell(x, 0, NONE, RING);
        Check.due("image 0 anew", x.image(0), true);
        Check.tell(x, 0, 0, STAR);
        Check.due("again 0", x.again(0), true);
        due("three", x.town(0, 0), 3);
        Check.due("again MIN", x.again(MIN), false);
        Check.due("again 3", x.again(3), false);
    }
}
