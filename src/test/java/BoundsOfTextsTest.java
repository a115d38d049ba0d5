import java.util.Arrays;

/** The tape and its texts (Terms 1, promises 1 to 5, 30 to 32): each sentence that names a bound, on both sides of it. */
final class BoundsOfTextsTest {
    private static final int NONE = OneStatement.NONE;
    private static final int MIN = Integer.MIN_VALUE;
    private static final int MAX = Integer.MAX_VALUE;
    private static final int BLANKS = 0x20202020;
    private static final String SIX = "person 0;".repeat(6);
    /** A text of each sort, and one with a FAULT at its first byte. */
    private static final String[] GOOD = {"person 3;", "eve;", "told 1;"};
    private static final String[] BAD = {"eve;", "told 1;", "person 3;"};

    private static OneStatement x;

    public static void main(String[] args) {
        newObject();
        feed();
        end();
        textIsTaken();
        textPlaces();
        textRefused();
        fault();
        blanks();
        words();
        numbers();
        semicolons();
        numbersThatCant();
        unlike();
        tooMany();
        faultsByPlace();
        missing();
        later();
        fullTape();
        count();
        image();
        again();
        Check.finish();
    }

    private static void due(String call, long got, long want) {
        Check.due(call, got, want);
    }

    /** Just so many bytes are on the tape. */
    private static void tapeHas(int n) {
        due("one byte more than the tape has", x.end(n + 1), NONE);
        due("what the tape has", x.end(n), n);
    }

    /** A tape of n blanks. */
    private static void blankTape(int n) {
        for (int k = 0; k < n; k += 20) {
            due("feed", x.feed(BLANKS, BLANKS, BLANKS, BLANKS, BLANKS), k + 20);
        }
        due("end", x.end(n), n);
    }

    private static void faulty(int sort, String text, int fault, int place) {
        x = new OneStatement();
        String name = "<" + text.replace("\n", "\\n") + ">";
        due(name, Check.tell(x, sort, NONE, text), fault == 0 ? 0 : NONE);
        due("the FAULT of " + name, x.fault(0), fault);
        due("the place of " + name, x.fault(1), fault == 0 ? NONE : place);
        due("how many by " + name, x.count(sort), fault == 0 ? 1 : 0);
    }

    private static void fine(int sort, String text) {
        faulty(sort, text, 0, NONE);
    }

    // ---- promise 1

    private static void newObject() {
        Check.says("1: No TOWNS, YEARS, LOGS");
        x = new OneStatement();
        for (int sort = 0; sort < 3; sort++) {
            due("count", x.count(sort), 0);
            due("no first to put a text in the place of", x.text(sort, 0), -2);
            due("count", x.count(sort), 0);
            due("a first one", x.text(sort, NONE), 0);
            due("count", x.count(sort), 1);
        }
        Check.says("1: no images");
        for (int k = 0; k < 3; k++) {
            x = new OneStatement();
            Check.due("again", x.again(k), false);
            Check.due("image", x.image(k), true);
            for (int other = 0; other < 3; other++) {
                Check.due("again " + other + " behind image " + k, x.again(other), other == k);
            }
        }
        Check.says("1: what no sentence tells of a new object is as empty as can be");
        x = new OneStatement();
        due("the tape", x.end(1), NONE);
        due("the tape", x.end(0), 0);
        due("FAULT", x.fault(0), 0);
        due("place", x.fault(1), NONE);
    }

    // ---- promise 2

    private static void feed() {
        Check.says("2: twenty bytes come behind it, of each number the highest first");
        for (int at = 0; at < 20; at++) {
            x = new OneStatement();
            int[] five = new int[5];
            Arrays.fill(five, BLANKS);
            five[at / 4] ^= (' ' ^ 0xE9) << 24 - at % 4 * 8;
            due("feed", x.feed(five[0], five[1], five[2], five[3], five[4]), 20);
            due("a byte that is no token", x.text(0, NONE), NONE);
            due("its place", x.fault(1), at);
        }
        Check.says("2: how many it has");
        x = new OneStatement();
        for (int n = 20; n <= 600; n += 20) {
            due("feed", x.feed(MIN, MAX, -1, 0, 1), n);
        }
        Check.says("2: NONE, and nothing comes, if there would be more than 600");
        for (int had = 579; had <= 600; had++) {
            x = new OneStatement();
            blankTape(had);
            int want = had <= 580 ? had + 20 : NONE;
            due("feed behind " + had, x.feed(-1, -1, -1, -1, -1), want);
            tapeHas(want == NONE ? had : want);
            due("what is on it", x.text(1, NONE), want == NONE ? 0 : NONE);
            due("the place of what came", x.fault(1), want == NONE ? NONE : had);
            due("an empty tape takes again", x.feed(0, 0, 0, 0, 0), 20);
        }
    }

    // ---- promise 3

    private static void end() {
        Check.says("3: The tape has its first n bytes alone: n");
        for (int n : new int[] {0, 1, 3, 4, 19, 20}) {
            x = new OneStatement();
            due("feed", x.feed(0x6576653b, 0x6576653b, 0x6576653b, 0x6576653b, 0x6576653b), 20);
            due("end", x.end(n), n);
            due("no more than those", x.end(n + 1), NONE);
            due("those", x.text(1, NONE), n % 4 == 0 ? 0 : NONE);
            due("eves", x.deed(0, NONE, 0), n % 4 == 0 ? n / 4 : -2);
        }
        x = new OneStatement();
        Check.feed(x, 0, "eve;eve;see 0 0;");
        due("end", x.end(8), 8);
        due("what was cut does not come again", x.feed(BLANKS, BLANKS, BLANKS, BLANKS, BLANKS), 28);
        due("text", x.text(1, NONE), 0);
        due("deeds", x.deed(0, NONE, 0), 2);
        Check.says("3: NONE if it has not so many");
        for (int had : new int[] {0, 1, 20, 599, 600}) {
            x = new OneStatement();
            blankTape(had);
            due("one more than it has", x.end(had + 1), NONE);
            due("far more", x.end(MAX), NONE);
            tapeHas(had);
        }
        Check.says("3: or n is below 0");
        x = new OneStatement();
        due("-1, nothing there", x.end(-1), NONE);
        Check.feed(x, 0, "eve;");
        due("-1", x.end(-1), NONE);
        due("MIN", x.end(MIN), NONE);
        due("it is as it was", x.end(5), NONE);
        due("it is as it was", x.text(1, NONE), 0);
        due("it is as it was", x.deed(0, NONE, 0), 1);
        due("0", x.end(0), 0);
    }

    // ---- promise 4

    private static void taken(String how) {
        due(how + ": the tape is empty", x.end(1), NONE);
        due(how + ": the next comes at its beginning", x.feed(0, 0, 0, 0, 0), 20);
        due("end", x.end(0), 0);
    }

    private static void textIsTaken() {
        Check.says("4: The tape is taken (and is empty then)");
        for (int sort = 0; sort < 3; sort++) {
            x = new OneStatement();
            due("a text", Check.tell(x, sort, NONE, GOOD[sort]), 0);
            taken("a text");
            due("in a place", Check.tell(x, sort, 0, GOOD[sort]), 0);
            taken("in a place");
            due("a FAULT", Check.tell(x, sort, NONE, BAD[sort]), NONE);
            taken("a FAULT");
            due("none such", Check.tell(x, sort, 1, GOOD[sort]), -2);
            taken("none such");
            due("a second text", Check.tell(x, sort, NONE, GOOD[sort]), 1);
            due("a third", Check.tell(x, sort, NONE, GOOD[sort]), -2);
            taken("a third");
        }
        due("no such sort", Check.tell(x, 3, NONE, "eve;"), -2);
        taken("no such sort");
        Check.says("4: an empty tape is a text of each sort");
        for (int sort = 0; sort < 3; sort++) {
            fine(sort, "");
            due("in the place of itself", x.text(sort, 0), 0);
        }
        due("a LOG without LINES", x.fact(0, NONE, 0), 0);
        due("a YEAR without DEEDS", x.text(1, NONE), 0);
        due("a YEAR without DEEDS", x.deed(0, NONE, 0), 0);
        due("a TOWN without PEOPLE", x.text(0, NONE), 0);
        due("a TOWN without PEOPLE", x.town(0, 0), 0);
    }

    private static void textPlaces() {
        Check.says("4: a further one (at NONE), or in the place of one: its number");
        for (int sort = 0; sort < 3; sort++) {
            x = new OneStatement();
            for (int k = 0; k < 2; k++) {
                due("count", x.count(sort), k);
                due("a further one", Check.tell(x, sort, NONE, GOOD[sort]), k);
                due("count", x.count(sort), k + 1);
                for (int at = 0; at <= k; at++) {
                    due("in the place of " + at, Check.tell(x, sort, at, ""), at);
                    due("count", x.count(sort), k + 1);
                    due("what stands there", sizeOf(sort, at), 0);
                    Check.tell(x, sort, at, GOOD[sort]);
                    due("what stands there", sizeOf(sort, at), 1);
                }
            }
        }
        Check.says("4: in the place of one: the other one stays");
        for (int sort = 0; sort < 3; sort++) {
            for (int at = 0; at < 2; at++) {
                x = new OneStatement();
                Check.tell(x, sort, NONE, GOOD[sort]);
                Check.tell(x, sort, NONE, GOOD[sort]);
                due("in the place of " + at, Check.tell(x, sort, at, ""), at);
                due("this one", sizeOf(sort, at), 0);
                due("the other one", sizeOf(sort, 1 - at), 1);
            }
        }
        Check.says("4: NONE: a FAULT (all told before stays)");
        for (int sort = 0; sort < 3; sort++) {
            x = new OneStatement();
            due("no first", Check.tell(x, sort, NONE, BAD[sort]), NONE);
            due("count", x.count(sort), 0);
            Check.tell(x, sort, NONE, GOOD[sort]);
            due("not in its place", Check.tell(x, sort, 0, BAD[sort]), NONE);
            due("what stands there", sizeOf(sort, 0), 1);
            due("no second", Check.tell(x, sort, NONE, BAD[sort]), NONE);
            due("count", x.count(sort), 1);
            due("no FAULT", Check.tell(x, sort, NONE, GOOD[sort]), 1);
        }
    }

    /** PEOPLE, DEEDS or LINES. */
    private static int sizeOf(int sort, int at) {
        return sort == 0 ? x.town(at, 0) : sort == 1 ? x.deed(at, NONE, 0) : x.fact(at, NONE, 0);
    }

    /** There is a FAULT ahead and would be one again, if the text were read. */
    private static void refused(String why, int sort, int at) {
        int[] counts = {x.count(0), x.count(1), x.count(2)};
        Check.tell(x, 0, counts[0] == 0 ? NONE : 0, "eve;");
        due("a FAULT ahead", x.fault(0), 1);
        due(why, Check.tell(x, sort, at, "!"), -2);
        due(why + ": FAULT", x.fault(0), 0);
        due(why + ": place", x.fault(1), NONE);
        for (int k = 0; k < 3; k++) {
            due(why + ": count", x.count(k), counts[k]);
        }
    }

    private static void textRefused() {
        Check.says("4: -2: there is none such (no text is read then, FAULT 0)");
        for (int sort = 0; sort < 3; sort++) {
            x = new OneStatement();
            for (int had = 0; had <= 2; had++) {
                for (int at : new int[] {MIN, -3, -2, had, had + 1, MAX}) {
                    refused("sort " + sort + ", at " + at + " of " + had, sort, at);
                }
                due("a further one", Check.tell(x, sort, NONE, GOOD[sort]), had < 2 ? had : -2);
            }
        }
        Check.says("4: -2: there are as many as may be (no text is read then, FAULT 0)");
        for (int sort = 0; sort < 3; sort++) {
            x = new OneStatement();
            due("a first", Check.tell(x, sort, NONE, GOOD[sort]), 0);
            due("a second", Check.tell(x, sort, NONE, GOOD[sort]), 1);
            refused("no third", sort, NONE);
            due("in the place of the second", Check.tell(x, sort, 1, ""), 1);
            refused("no third", sort, NONE);
            due("of another sort", Check.tell(x, (sort + 1) % 3, NONE, ""), 0);
        }
        Check.says("4: -2: no such sort (no text is read then, FAULT 0)");
        x = new OneStatement();
        for (int sort = 0; sort < 3; sort++) {
            due("sort " + sort, Check.tell(x, sort, NONE, GOOD[sort]), 0);
        }
        for (int sort : new int[] {MIN, -2, -1, 3, 4, MAX}) {
            refused("sort " + sort, sort, NONE);
            refused("sort " + sort, sort, 0);
        }
    }

    // ---- promise 5

    private static void fault() {
        Check.says("5: Of the latest text(), what 0: the FAULT, 0 without, 1: its place, NONE without");
        x = new OneStatement();
        due("a FAULT", Check.tell(x, 1, NONE, "eve;eve;!"), NONE);
        due("FAULT", x.fault(0), 1);
        due("place", x.fault(1), 8);
        Check.feed(x, 0, "eve;");
        x.end(MAX);
        x.end(0);
        x.town(0, 0);
        due("no other call changes it", x.fault(0), 1);
        due("no other call changes it", x.fault(1), 8);
        due("the latest", Check.tell(x, 2, NONE, "told 6;"), NONE);
        due("FAULT", x.fault(0), 2);
        due("place", x.fault(1), 5);
        due("none", Check.tell(x, 2, NONE, "told 5;"), 0);
        due("FAULT", x.fault(0), 0);
        due("place", x.fault(1), NONE);
        due("a FAULT at place 0", Check.tell(x, 1, NONE, "!"), NONE);
        due("FAULT", x.fault(0), 1);
        due("place", x.fault(1), 0);
        Check.says("5: NONE for another what");
        Check.tell(x, 2, NONE, "told 6;");
        for (int what : new int[] {MIN, -2, -1, 2, 3, 10, MAX}) {
            due("fault(" + what + ")", x.fault(what), NONE);
        }
        due("what 0", x.fault(0), 2);
        due("what 1", x.fault(1), 5);
    }

    // ---- Terms 1: tokens

    private static boolean isBlank(int sign) {
        return sign == 10 || sign == 32;
    }

    private static void blanks() {
        Check.says("Terms: blanks (10, 32) between");
        for (int sign = 0; sign < 256; sign++) {
            char c = (char) sign;
            faulty(1, "eve;" + c, isBlank(sign) ? 0 : 1, 4);
            faulty(1, c + "eve;", isBlank(sign) ? 0 : 1, 0);
            boolean digit = sign >= '0' && sign <= '9';
            faulty(1, "see 0" + c + "0;", isBlank(sign) ? 0 : 1, digit ? 4 : 5);
        }
        fine(2, " \n \n ");
        fine(1, "\n\neve\n\n;\n\nsee\n5\n5\n;\n\n");
        fine(1, "see5 5;eve;");
        faulty(1, "see55;", 1, 5);
        faulty(1, "e ve;", 1, 0);
        faulty(0, "person 3\n0;", 1, 9);
    }

    private static void words() {
        Check.says("Terms: words, rows of letters a .. z, as long as they go");
        for (int sign = 0; sign < 256; sign++) {
            boolean letter = sign >= 'a' && sign <= 'z';
            // a letter makes the word longer, a blank leaves the text without its ;
            int place = letter ? 0 : isBlank(sign) ? 4 : 3;
            faulty(1, "eve" + (char) sign, sign == ';' ? 0 : 1, place);
        }
        String[][] known = {{"person", "worth", "follows", "knows", "hears"}, {"tell", "ask", "see", "sell", "eve"}, {"asked", "told"}};
        String[][] rest = {{" 0", " 0 0", " 0 1", " 0 0", " 0 1"}, {" 0 0", " 0 0", " 0 0", " 0 1 0", ""}, {" 0", " 0"}};
        for (int of = 0; of < 3; of++) {
            for (int k = 0; k < known[of].length; k++) {
                for (int sort = 0; sort < 3; sort++) {
                    String ahead = sort == 0 ? SIX.substring(9) : "";
                    faulty(sort, ahead + known[of][k] + rest[of][k] + ";", sort == of ? 0 : 1, ahead.length());
                }
                String word = known[of][k];
                faulty(of, word.substring(1) + rest[of][k] + ";", 1, 0);
                faulty(of, word.substring(0, word.length() - 1) + rest[of][k] + ";", 1, 0);
                faulty(of, word + "a" + rest[of][k] + ";", 1, 0);
                faulty(of, word + word.charAt(word.length() - 1) + rest[of][k] + ";", 1, 0);
                faulty(of, word.toUpperCase() + rest[of][k] + ";", 1, 0);
            }
        }
    }

    private static void numbers() {
        Check.says("Terms: NUMBERS, 1 or 2 digits (a longer row of digits is no token)");
        for (int sign = 0; sign < 256; sign++) {
            boolean digit = sign >= '0' && sign <= '9';
            int fault = !digit ? 1 : sign > '5' ? 2 : 0;
            faulty(2, "told " + (char) sign + ";", fault, isBlank(sign) ? 6 : 5);
        }
        faulty(2, "told;", 1, 4);
        fine(2, "told 5;");
        fine(2, "told 05;");
        faulty(2, "told 005;", 1, 5);
        faulty(2, "told 0000000005;", 1, 5);
        faulty(2, "told 500;", 1, 5);
        fine(0, "person 30;");
        faulty(0, "person 030;", 1, 7);
        faulty(0, "person 300;", 1, 7);
        faulty(1, "sell 00 01 300;", 1, 11);
        fine(1, "sell 00 01 30;");
        faulty(1, "tell 0 000;", 1, 7);
        faulty(1, "tell 000 0;", 1, 5);
        faulty(1, "eve 000;", 1, 4);
        faulty(1, "000;", 1, 0);
        x = Check.with("person 07;person 30;worth 00 09;", null, null);
        due("07", x.town(0, 30), 7);
        due("30", x.town(0, 31), 30);
        due("09", x.town(0, 10), 9);
        Check.says("Terms: NUMBERS, as many as a word has");
        faulty(0, "person ;", 1, 7);
        faulty(0, "person 1 1;", 1, 9);
        faulty(0, "worth 1;", 1, 7);
        faulty(0, "worth 1 1 1;", 1, 10);
        faulty(1, "sell 0 1;", 1, 8);
        faulty(1, "sell 0 1 2 3;", 1, 11);
        faulty(1, "eve 0;", 1, 4);
        faulty(1, "see 0;", 1, 5);
        faulty(1, "see 0 0 0;", 1, 8);
        faulty(2, "asked 0 0;", 1, 8);
    }

    private static void semicolons() {
        Check.says("Terms: ; one byte");
        fine(1, "eve;eve;");
        faulty(1, "eve;;", 1, 4);
        faulty(1, ";", 1, 0);
        faulty(1, "eve:", 1, 3);
        faulty(1, "eve<", 1, 3);
        faulty(1, "eve,", 1, 3);
        faulty(1, "eve eve;", 1, 4);
        Check.says("Terms: FAULT 1 (the end's place)");
        faulty(1, "eve", 1, 3);
        faulty(1, "eve  ", 1, 5);
        faulty(1, "eve;see", 1, 7);
        faulty(1, "eve;see 0\n", 1, 10);
        faulty(1, "eve;see 0 0", 1, 11);
        fine(1, "eve;see 0 0;");
    }

    // ---- Terms 1: FAULTS 2 to 4

    /** All NUMBERS 0 to 99 in one place of a line; one of them may be the same as another NUMBER of the line. */
    private static void upTo(int sort, String ahead, String behind, int most, int same, int samePlace) {
        for (int number = 0; number < 100; number++) {
            boolean again = number == same;
            int place = again ? samePlace : ahead.length();
            faulty(sort, ahead + number + behind + ";", number > most || again ? 2 : 0, place);
        }
    }

    private static void numbersThatCant() {
        String five = SIX.substring(9);
        int at = SIX.length();
        Check.says("Terms: COWS, 0 .. 30 (person)");
        upTo(0, five + "person ", "", 30, NONE, 0);
        Check.says("Terms: FACTS, 0 .. 5 (worth)");
        upTo(0, "worth ", " 0", 5, NONE, 0);
        Check.says("Terms: WORTH, 0 .. 20");
        upTo(0, "worth 0 ", "", 20, NONE, 0);
        Check.says("Terms: FACTS, 0 .. 5 (follows)");
        upTo(0, "follows ", " 5", 5, 5, 10);
        upTo(0, "follows 0 ", "", 5, 0, 10);
        Check.says("Terms: knows: a PERSON, 0 .. 5, a FACT");
        upTo(0, SIX + "knows ", " 0", 5, NONE, 0);
        upTo(0, SIX + "knows 0 ", "", 5, NONE, 0);
        Check.says("Terms: hears: a PERSON, whom he HEARS");
        upTo(0, SIX + "hears ", " 5", 5, 5, at + 8);
        upTo(0, SIX + "hears 0 ", "", 5, 0, at + 8);
        Check.says("Terms: tell, ask, see: a PERSON, a FACT");
        for (String word : new String[] {"tell ", "ask ", "see "}) {
            upTo(1, word, " 0", 5, NONE, 0);
            upTo(1, word + "0 ", "", 5, NONE, 0);
        }
        Check.says("Terms: sell: a PERSON, to another one, for COWS, 0 .. 30");
        upTo(1, "sell ", " 5 0", 5, 5, 7);
        upTo(1, "sell 0 ", " 0", 5, 0, 7);
        upTo(1, "sell 0 1 ", "", 30, NONE, 0);
        Check.says("Terms: A LOG's text (a FACT)");
        upTo(2, "asked ", "", 5, NONE, 0);
        upTo(2, "told ", "", 5, NONE, 0);
    }

    private static void unlike() {
        Check.says("Terms: 2, of follows the second FACT, of hears, of sell the second PERSON, if it is the first");
        for (int a = 0; a < 6; a++) {
            for (int b = 0; b < 6; b++) {
                int fault = a == b ? 2 : 0;
                faulty(0, "follows " + a + " " + b + ";", fault, 10);
                faulty(0, SIX + "hears " + a + " " + b + ";", fault, SIX.length() + 8);
                faulty(1, "sell " + a + " " + b + " 0;", fault, 7);
                fine(0, "worth " + a + " " + b + ";");
                fine(0, SIX + "knows " + a + " " + b + ";");
                fine(1, "tell " + a + " " + b + ";");
                fine(1, "sell " + a + " " + (a == 0 ? 1 : 0) + " " + b + ";");
            }
        }
        faulty(0, "follows 02 2;", 2, 11);
        faulty(1, "sell 6 6 0;", 2, 5);
        faulty(0, "follows 99 99;", 2, 8);
    }

    private static void tooMany() {
        Check.says("Terms: PEOPLE, at most 6: 3 a 7th PERSON, at its first token");
        fine(0, SIX);
        due("six", x.town(0, 0), 6);
        faulty(0, SIX + "person 0;", 3, 54);
        faulty(0, SIX + " \n person 0;", 3, 57);
        faulty(0, SIX + "person 0;person 0;", 3, 54);
        faulty(0, "worth 0 1;" + SIX + "worth 0 1;person 0;", 3, 74);
        Check.says("Terms: at most 6 PEOPLE, but lines of a TOWN as many as the tape has");
        fine(0, SIX + "worth 0 1;".repeat(27) + "knows 0 0;".repeat(13) + "hears 0 1;".repeat(14));
        Check.says("Terms: DEEDS, at most 40: 3 a 41st DEED, at its first token");
        String[] deeds = {"eve;", "see 0 0;", "sell 0 1 0;"};
        for (String deed : deeds) {
            fine(1, deed.repeat(40));
            due("forty", x.deed(0, NONE, 0), 40);
            faulty(1, deed.repeat(40) + " eve;", 3, 40 * deed.length() + 1);
            faulty(1, deed.repeat(40) + "see 0 0;eve;", 3, 40 * deed.length());
        }
        Check.says("Terms: LINES, at most 8: 3 a 9th LINE, at its first token");
        fine(2, "told 0;".repeat(8));
        due("eight", x.fact(0, NONE, 0), 8);
        faulty(2, "told 0;".repeat(9), 3, 56);
        faulty(2, "told 0;".repeat(8) + "\nasked 0;", 3, 57);
        fine(2, "asked 0;".repeat(8));
        faulty(2, "asked 0;".repeat(9), 3, 64);
        Check.says("Terms: a line with such a NUMBER tells its PERSON, DEED, LINE all the same");
        faulty(0, SIX + "person 31;", 3, 54);
        faulty(1, "eve;".repeat(40) + "see 6 0;", 3, 160);
        faulty(2, "told 0;".repeat(8) + "told 6;", 3, 56);
        faulty(0, "person 31;knows 0 0;", 2, 7);
    }

    private static void faultsByPlace() {
        Check.says("Terms: 1 the first byte or token with which no text goes on; if there is none, the others");
        faulty(1, "see 6 0;!", 1, 8);
        faulty(1, "see 6 0;! !", 1, 8);
        faulty(1, "eve;".repeat(41) + "!", 1, 164);
        faulty(0, "knows 0 0;!", 1, 10);
        faulty(0, SIX + "person 31;worth 6 21;eve;", 1, 75);
        faulty(0, "person 31", 1, 9);
        faulty(2, "told 6", 1, 6);
        Check.says("Terms: 2, 3: the first by place");
        faulty(1, "see 6 0;see 0 6;", 2, 4);
        faulty(1, "see 0 0;see 0 6;see 6 0;", 2, 14);
        faulty(1, "see 6 6;", 2, 4);
        faulty(1, "sell 6 6 31;", 2, 5);
        faulty(1, "sell 0 0 31;", 2, 7);
        faulty(0, "worth 6 21;", 2, 6);
        faulty(0, SIX + "worth 0 21;person 0;", 2, 62);
        faulty(0, SIX + "person 0;worth 0 21;", 3, 54);
        faulty(1, "see 0 6;" + "eve;".repeat(40), 2, 6);
        faulty(1, "eve;".repeat(40) + "see 0 6;", 3, 160);
        faulty(2, "told 6;" + "told 0;".repeat(8), 2, 5);
        faulty(2, "told 0;".repeat(7) + "told 6;told 0;", 2, 54);
        Check.says("Terms: If there is none of these, at the end's place, of a TOWN: 4");
        faulty(0, "knows 5 0;worth 0 21;", 2, 18);
        faulty(0, "knows 5 0;" + SIX.substring(9) + "person 0;person 0;", 3, 64);
        faulty(0, "knows 5 0;worth 0 20;", 4, 21);
    }

    private static void missing() {
        Check.says("Terms: 4 a PERSON that was told of and is not there");
        for (int people = 0; people <= 6; people++) {
            String town = "person 0;".repeat(people);
            for (int p = 0; p < 6; p++) {
                int fault = p < people ? 0 : 4;
                faulty(0, town + "knows " + p + " 0;", fault, town.length() + 10);
                faulty(0, "knows " + p + " 0;" + town, fault, town.length() + 10);
                for (int q = 0; q < 6; q++) {
                    if (q != p) {
                        faulty(0, town + "hears " + p + " " + q + ";", Math.max(p, q) < people ? 0 : 4, town.length() + 10);
                    }
                }
                fine(0, town + "worth " + p + " 0;");
                fine(0, town + "follows " + p + " " + (p + 1) % 6 + ";");
            }
        }
        Check.says("Terms: 4, at the end's place");
        faulty(0, "knows 0 0; \n ", 4, 13);
        faulty(0, "knows 0 0;worth 1 1;", 4, 20);
        Check.says("Terms: 4, of a TOWN (a YEAR tells of no PEOPLE that must be there)");
        fine(1, "tell 5 5;ask 5 5;see 5 5;sell 5 4 30;");
    }

    private static void later() {
        Check.says("Terms: WORTH (1 at first)");
        x = Check.with("worth 2 0;worth 3 20;", null, null);
        int[] worth = {1, 1, 0, 20, 1, 1};
        for (int f = 0; f < 6; f++) {
            due("WORTH of " + f, x.town(0, 10 + f), worth[f]);
        }
        Check.tell(x, 0, 0, "");
        due("a new TOWN knows nothing of the one in whose place it is", x.town(0, 13), 1);
        Check.says("Terms: Later ones strike (worth)");
        x = Check.with("worth 0 20;worth 1 7;worth 0 0;worth 0 3;", null, null);
        due("the last", x.town(0, 10), 3);
        due("of another FACT", x.town(0, 11), 7);
        x = Check.with("worth 0 3;worth 0 0;", null, null);
        due("to 0", x.town(0, 10), 0);
        Check.says("Terms: but all others, which are further ones");
        x = Check.with("person 1;person 1;person 2;follows 0 1;follows 0 2;follows 0 1;knows 0 3;knows 0 4;knows 0 3;"
            + "hears 0 1;hears 0 2;hears 0 1;", null, null);
        due("PEOPLE", x.town(0, 0), 3);
        due("COWS", x.town(0, 31), 1);
        due("FOLLOWS", x.town(0, 20), 6);
        due("KNOWS", x.town(0, 40), 24);
        due("HEARS", x.town(0, 50), 6);
    }

    private static void fullTape() {
        Check.says("Terms: THE TAPE has at most 600 bytes");
        String year = "sell 5 4 30   ;".repeat(40);
        due("bytes of the text", year.length(), 600);
        fine(1, year);
        due("DEEDS", x.deed(0, NONE, 0), 40);
        due("the last one's COWS", x.deed(0, 39, 3), 30);
        faulty(1, year.substring(0, 599), 1, 599);
        faulty(1, year.substring(0, 599) + "!", 1, 599);
        faulty(1, year.substring(0, 599) + " ", 1, 600);
        faulty(1, "eve;".repeat(150), 3, 160);
        faulty(1, "eve;".repeat(149) + "eve", 1, 599);
        fine(0, " ".repeat(600));
        fine(0, "worth 0 2;".repeat(59) + "worth 0 7;");
        due("the last line strikes", x.town(0, 10), 7);
        faulty(0, " ".repeat(590) + "knows 0 0;", 4, 600);
        faulty(2, " ".repeat(599) + "a", 1, 599);
        faulty(2, "a".repeat(600), 1, 0);
        faulty(2, "told " + "0".repeat(595), 1, 5);
    }

    // ---- promises 30 to 32

    private static void count() {
        Check.says("30: How many there are of a sort");
        x = new OneStatement();
        for (int sort = 0; sort < 3; sort++) {
            for (int had = 0; had < 3; had++) {
                due("count", x.count(sort), had);
                Check.tell(x, sort, NONE, GOOD[sort]);
            }
            due("two at most", x.count(sort), 2);
        }
        Check.says("30: -2 for another one");
        for (int sort : new int[] {MIN, -2, -1, 3, 4, MAX}) {
            due("count(" + sort + ")", x.count(sort), -2);
        }
    }

    private static void image() {
        Check.says("31: Image k (0 .. 2)");
        x = new OneStatement();
        for (int k = 0; k < 3; k++) {
            Check.due("image " + k, x.image(k), true);
            Check.due("once more", x.image(k), true);
            Check.due("again " + k, x.again(k), true);
        }
        Check.says("31: false for another k (and there is no image)");
        x = new OneStatement();
        for (int k : new int[] {MIN, -2, -1, 3, 4, MAX}) {
            Check.due("image " + k, x.image(k), false);
            Check.due("again " + k, x.again(k), false);
        }
        for (int k = 0; k < 3; k++) {
            Check.due("again " + k, x.again(k), false);
        }
        Check.says("31: is all that is told (the tape, the FAULT, too), as it is now");
        x = new OneStatement();
        keep(0, "nothing");
        for (int sort = 0; sort < 3; sort++) {
            Check.tell(x, sort, NONE, GOOD[sort]);
            Check.tell(x, sort, NONE, "");
        }
        Check.tell(x, 2, 1, "told 6;");
        Check.feed(x, 0, "eve;".repeat(37) + "!");
        keep(1, "all");
        x.end(0);
        blankTape(600);
        keep(2, "a full tape");
        Check.tell(x, 0, 0, SIX);
        Check.tell(x, 1, 0, "");
        Check.tell(x, 2, 0, "!");
        backTo(1, 1, 2, 5, 149);
        due("what is on the tape", x.text(1, 1), NONE);
        due("what is on the tape", x.fault(1), 148);
        backTo(2, 1, 2, 5, 600);
        due("what is on the tape", x.text(1, 1), 1);
        backTo(0, NONE, 0, NONE, 0);
        backTo(1, 1, 2, 5, 149);
        Check.says("31: as it is now (later ones strike)");
        keep(0, "all");
        x.end(0);
        Check.tell(x, 0, 0, "");
        keep(1, "without PEOPLE");
        backTo(0, 1, 2, 5, 149);
        backTo(1, 0, 0, NONE, 0);
        Check.says("31: an image is no part of an image");
        x = new OneStatement();
        keep(0, "nothing");
        keep(1, "nothing");
        Check.due("again 0", x.again(0), true);
        Check.due("image 1 is there still", x.again(1), true);
    }

    private static void keep(int k, String what) {
        Check.due("image " + k + " of " + what, x.image(k), true);
    }

    private static void backTo(int k, int people, int fault, int place, int tape) {
        Check.due("again " + k, x.again(k), true);
        for (int sort = 0; sort < 3; sort++) {
            due("count", x.count(sort), people == NONE ? 0 : 2);
        }
        due("PEOPLE", x.town(0, 0), people);
        due("DEEDS", x.deed(0, NONE, 0), people == NONE ? -2 : 1);
        due("LINES", x.fact(0, NONE, 0), people == NONE ? -2 : 1);
        due("FAULT", x.fault(0), fault);
        due("place", x.fault(1), place);
        tapeHas(tape);
    }

    private static void again() {
        Check.says("32: All that is as image k has it: true");
        x = new OneStatement();
        Check.tell(x, 0, NONE, "person 7;");
        keep(2, "a TOWN");
        Check.tell(x, 0, 0, "person 8;");
        Check.tell(x, 0, NONE, "person 9;");
        Check.due("again", x.again(2), true);
        due("COWS", x.town(0, 30), 7);
        due("no second", x.town(1, 0), NONE);
        due("count", x.count(0), 1);
        due("a further one", Check.tell(x, 0, NONE, "person 6;"), 1);
        Check.due("again, as often as one wants", x.again(2), true);
        due("count", x.count(0), 1);
        Check.says("32: false if there is none such (and all is as it was)");
        Check.feed(x, 0, "person 31;");
        for (int k : new int[] {MIN, -2, -1, 0, 1, 3, 4, MAX}) {
            Check.due("again " + k, x.again(k), false);
        }
        due("COWS", x.town(0, 30), 7);
        tapeHas(10);
        due("the tape", x.text(0, 0), NONE);
        Check.due("again 0", x.again(0), false);
        due("FAULT", x.fault(0), 2);
        due("place", x.fault(1), 7);
    }
}
