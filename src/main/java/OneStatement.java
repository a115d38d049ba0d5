import java.util.Arrays;

/** Towns in which each may tell one thing a year, as ../shared/DOC.md promises. */
public final class OneStatement {

    public static final int NONE = -1;

    private static final int NO_SUCH = -2;
    private static final int NO_TURNS = -999;

    private static final int FACTS = 6;
    private static final int ALL_FACTS = 63;
    private static final int FACT_SETS = 64;
    private static final int PEOPLE = 6;
    private static final int PEOPLE_SETS = 64;
    private static final int NOBODY = 6;
    private static final int DEEDS = 40;
    private static final int LINES = 8;
    private static final int TAPE = 600;
    private static final int FED = 20;
    private static final int SORTS = 3;
    private static final int OF_A_SORT = 2;
    private static final int IMAGES = 3;
    private static final int DRAWS = 60;
    private static final int TURNS = 3;
    private static final int MOST_COWS = 99;

    /** Of each FACT the sets (as bits of a long) that have it, so that sets are counted without a walk through them. */
    private static final long[] HAVING = {
        0xAAAAAAAAAAAAAAAAL, 0xCCCCCCCCCCCCCCCCL, 0xF0F0F0F0F0F0F0F0L,
        0xFF00FF00FF00FF00L, 0xFFFF0000FFFF0000L, 0xFFFFFFFF00000000L
    };

    private final Told told;
    private final Told[] images;
    private final Reader reader;
    private final Play play;
    private final Search search;
    private final Spread spread;

    public OneStatement() {
        told = new Told();
        images = new Told[IMAGES];
        reader = new Reader();
        play = new Play();
        search = new Search();
        spread = new Spread();
    }

    public int feed(int a, int b, int c, int d, int e) {
        if (told.length > TAPE - FED) {
            return NONE;
        }
        told.append(a);
        told.append(b);
        told.append(c);
        told.append(d);
        told.append(e);
        return told.length;
    }

    public int end(int n) {
        if (n < 0 || n > told.length) {
            return NONE;
        }
        told.length = n;
        return n;
    }

    public int text(int sort, int at) {
        int length = told.length;
        told.length = 0;
        told.fault = 0;
        told.place = NONE;
        int had = told.howMany(sort);
        if (had == NO_SUCH || at < NONE || at >= had || (at == NONE && had >= OF_A_SORT)) {
            return NO_SUCH;
        }
        reader.read(told.tape, length, sort);
        told.fault = reader.fault;
        told.place = reader.place;
        if (reader.fault != 0) {
            return NONE;
        }
        int place = at == NONE ? had : at;
        told.put(reader, sort, place);
        return place;
    }

    public int fault(int what) {
        if (what == 0) {
            return told.fault;
        }
        return what == 1 ? told.place : NONE;
    }

    public int town(int town, int what) {
        Town t = told.townAt(town);
        return t == null ? NONE : t.answer(what);
    }

    public int deed(int year, int k, int what) {
        Rows y = told.yearAt(year);
        return y == null ? NO_SUCH : y.answer(k, what, 4);
    }

    public int till(int town, int year) {
        Town t = told.townAt(town);
        Rows y = told.yearAt(year);
        if (t == null || y == null) {
            return NONE;
        }
        play.playAll(t, y);
        return play.done;
    }

    public int state(int town, int year, int n, int what) {
        Town t = told.townAt(town);
        Rows y = told.yearAt(year);
        if (t == null || y == null || n < 0 || n > y.size) {
            return NONE;
        }
        play.begin(t);
        play.play(t, y, n);
        return play.done == n ? play.answer(what) : NONE;
    }

    public int tellings(int town, int fact, int k) {
        Town t = told.townAt(town);
        if (t == null || !isFact(fact)) {
            return NONE;
        }
        return spread.tellers(t, t.whoKnow(fact), k);
    }

    public int message(int town, int fact, int person) {
        Town t = told.townAt(town);
        if (t == null || !isFact(fact) || !t.has(person)) {
            return NONE;
        }
        return Spread.steps(t, t.whoKnow(fact), person);
    }

    public int bell(int town, int k) {
        Town t = told.townAt(town);
        if (t == null || !isRowIndex(t, k)) {
            return NONE;
        }
        search.ring(t);
        return search.found(k);
    }

    public int weddings(int town, int k) {
        Town t = told.townAt(town);
        if (t == null || !isRowIndex(t, k)) {
            return NONE;
        }
        search.wed(t);
        return search.found(k);
    }

    public int code(int town) {
        Town t = told.townAt(town);
        return t == null ? NONE : t.codeLength();
    }

    public long save(int m, int n, int what) {
        if (m < 1 || m > 6 || n < 1 || n > 9 || what < 0 || what > 2) {
            return NONE;
        }
        long over = 0;
        long under = 1;
        for (int day = 1; day < n; day++) {
            over = Fraction.sumOfBetter(m, over, under);
            under = under * m;
        }
        if (what == 2) {
            return Fraction.upward(over, under);
        }
        over = Fraction.sumOfBetter(m, over, under);
        return Fraction.part(over, under * m, what == 1);
    }

    public int byTurns(int town, int n, boolean first) {
        Town t = told.townAt(town);
        if (t == null || n < 0 || n > TURNS) {
            return NO_TURNS;
        }
        search.takeTurns(t, n);
        return first ? search.firstMove : search.most;
    }

    public int fact(int log, int k, int what) {
        Rows l = told.logAt(log);
        return l == null ? NO_SUCH : l.answer(k, what, 2);
    }

    public int fits(int town, int log, int what) {
        Town t = told.townAt(town);
        Rows l = told.logAt(log);
        if (t == null || l == null) {
            return NO_SUCH;
        }
        long sets = Sets.fitting(t, l);
        switch (what) {
            case 0:
                return Long.bitCount(sets);
            case 1:
                return Sets.inAll(sets);
            case 2:
                return Sets.halving(sets);
            case 3:
                return Sets.whose(t, sets);
            default:
                return what < 10 ? NO_SUCH : Sets.nth(sets, what - 10);
        }
    }

    public int drawn(int town, int seed, int n, int what) {
        Town t = told.townAt(town);
        if (t == null || n < 0 || n > DRAWS) {
            return NONE;
        }
        play.begin(t);
        play.drawFrom(t, seed, n);
        return play.answer(what);
    }

    public int roots(int town, int what) {
        Town t = told.townAt(town);
        if (t == null) {
            return NONE;
        }
        switch (what) {
            case 0:
                return Integer.bitCount(t.rootFacts());
            case 1:
                return t.rootFacts();
            case 2:
                return t.rings();
            case 3:
                return t.largestRing();
            case 4:
                return Long.bitCount(t.closed);
            case 5:
                return t.dearest();
            case 6:
                return t.knownBy(1);
            case 7:
                return t.knownBy(0);
            case 8:
                return t.people == 0 ? 0 : t.knownBy(t.people);
            default:
                return what >= 10 && isFact(what - 10) ? t.whole(what - 10) : NONE;
        }
    }

    public int chain(int town, int k) {
        Town t = told.townAt(town);
        if (t == null || k < NONE || k >= FACTS) {
            return NONE;
        }
        search.link(t);
        return k < search.most ? search.found(k) : NONE;
    }

    public int reach(int town, int what) {
        Town t = told.townAt(town);
        if (t == null) {
            return NO_SUCH;
        }
        switch (what) {
            case 0:
                return Spread.loudest(t);
            case 1:
                return Spread.deaf(t);
            case 2:
                return Integer.bitCount(Spread.choir(t));
            case 3:
                return Spread.choir(t);
            case 4:
                return Spread.twins(t);
            case 5:
                return Integer.bitCount(Spread.cover(t));
            case 6:
                return Spread.cover(t);
            default:
                return what >= 10 && t.has(what - 10) ? Spread.audience(t, what - 10) : NO_SUCH;
        }
    }

    public int learnt(int town, int person, int fact) {
        Town t = told.townAt(town);
        if (t == null || !t.has(person) || !isFact(fact) || !t.knows(person, fact)) {
            return NONE;
        }
        return t.gain(person, fact);
    }

    public int best(int town, int person, boolean much) {
        Town t = told.townAt(town);
        if (t == null || !t.has(person)) {
            return NO_SUCH;
        }
        return much ? t.bestGain(person) : t.bestFact(person);
    }

    public int sales(int town, int k) {
        Town t = told.townAt(town);
        if (t == null || !isRowIndex(t, k)) {
            return NONE;
        }
        search.trade(t);
        return search.found(k);
    }

    public long luck(int town, int person, boolean under) {
        Town t = told.townAt(town);
        if (t == null || !t.has(person)) {
            return NONE;
        }
        return Fraction.part(t.sixtiethsOfLuck(person), 60L * t.people, under);
    }

    public int after(int town, int year, int what) {
        Town t = told.townAt(town);
        Rows y = told.yearAt(year);
        if (t == null || y == null) {
            return NO_SUCH;
        }
        play.playAll(t, y);
        switch (what) {
            case 0:
                return play.fire;
            case 1:
                return greatest(play.lostBy, t.people, 0);
            case 2:
                return greatest(play.cows, t.people, NONE);
            case 3:
                return play.wisest(t);
            case 4:
                return greatest(play.toldOf, FACTS, 0);
            case 5:
                return play.guessed;
            default:
                return NO_SUCH;
        }
    }

    public long share(int town, int log, int fact, boolean under) {
        Town t = told.townAt(town);
        Rows l = told.logAt(log);
        if (t == null || l == null || !isFact(fact)) {
            return NONE;
        }
        long sets = Sets.fitting(t, l);
        if (sets == 0) {
            return NONE;
        }
        return Fraction.part(Long.bitCount(sets & HAVING[fact]), Long.bitCount(sets), under);
    }

    public int fewest(int town, int log, boolean most) {
        Town t = told.townAt(town);
        Rows l = told.logAt(log);
        if (t == null || l == null) {
            return NONE;
        }
        long sets = Sets.fitting(t, l);
        return most ? Sets.largest(sets) : Sets.smallest(sets);
    }

    public int count(int sort) {
        return told.howMany(sort);
    }

    public boolean image(int k) {
        if (k < 0 || k >= IMAGES) {
            return false;
        }
        Told kept = images[k];
        if (kept == null) {
            kept = new Told();
            images[k] = kept;
        }
        kept.become(told);
        return true;
    }

    public boolean again(int k) {
        if (k < 0 || k >= IMAGES) {
            return false;
        }
        Told kept = images[k];
        if (kept == null) {
            return false;
        }
        told.become(kept);
        return true;
    }

    private static boolean isFact(int fact) {
        return fact >= 0 && fact < FACTS;
    }

    private static boolean isRowIndex(Town t, int k) {
        return k == NONE || t.has(k);
    }

    private static boolean isIn(int bits, int k) {
        return (bits >> k & 1) != 0;
    }

    /** Where the greatest of the first numbers is, of several the first; NONE if none is above the floor. */
    private static int greatest(int[] numbers, int size, int floor) {
        int at = NONE;
        int most = floor;
        for (int k = 0; k < size && k < numbers.length; k++) {
            if (numbers[k] > most) {
                most = numbers[k];
                at = k;
            }
        }
        return at;
    }

    /** All that an image keeps. What was read never changes, so that images share it. */
    private static final class Told {
        final byte[] tape = new byte[TAPE];
        int length = 0;
        int fault = 0;
        int place = NONE;
        private final Town[] towns = new Town[OF_A_SORT];
        private final Rows[] years = new Rows[OF_A_SORT];
        private final Rows[] logs = new Rows[OF_A_SORT];
        private final int[] counts = new int[SORTS];

        void append(int number) {
            for (int shift = 24; shift >= 0 && length < TAPE; shift -= 8) {
                tape[length] = (byte) (number >> shift);
                length++;
            }
        }

        int howMany(int sort) {
            return sort < 0 || sort >= SORTS ? NO_SUCH : counts[sort];
        }

        Town townAt(int k) {
            return k < 0 || k >= OF_A_SORT ? null : towns[k];
        }

        Rows yearAt(int k) {
            return k < 0 || k >= OF_A_SORT ? null : years[k];
        }

        Rows logAt(int k) {
            return k < 0 || k >= OF_A_SORT ? null : logs[k];
        }

        void put(Reader reader, int sort, int at) {
            if (sort < 0 || sort >= SORTS || at < 0 || at >= OF_A_SORT) {
                return;
            }
            if (sort == 0) {
                towns[at] = reader.toTown();
            } else if (sort == 1) {
                years[at] = reader.toRows(Reader.TELL);
            } else {
                logs[at] = reader.toRows(Reader.ASKED);
            }
            counts[sort] = Math.max(counts[sort], at + 1);
        }

        void become(Told other) {
            System.arraycopy(other.tape, 0, tape, 0, TAPE);
            length = other.length;
            fault = other.fault;
            place = other.place;
            for (int k = 0; k < OF_A_SORT; k++) {
                towns[k] = other.towns[k];
                years[k] = other.years[k];
                logs[k] = other.logs[k];
            }
            System.arraycopy(other.counts, 0, counts, 0, SORTS);
        }
    }

    /** Reads a tape as a text: its lines, four numbers each (the word, its numbers), or its FAULT. */
    private static final class Reader {
        static final int PERSON = 0;
        static final int WORTH = 1;
        static final int FOLLOWS = 2;
        static final int KNOWS = 3;
        static final int HEARS = 4;
        static final int TELL = 5;
        static final int SELL = 8;
        static final int ASKED = 10;
        private static final int WORDS = 12;

        private static final int THE_END = 0;
        private static final int A_WORD = 1;
        private static final int A_NUMBER = 2;
        private static final int A_SEMICOLON = 3;
        private static final int NO_TOKEN = 4;

        /** The shortest line, eve;, has four bytes. */
        private static final int MOST_LINES = TAPE / 4;

        private static final int[] FIRST_WORD = {PERSON, TELL, ASKED, WORDS};
        private static final int[] LIMIT = {PEOPLE, DEEDS, LINES};
        private static final int[] NUMBERS = {1, 2, 2, 2, 2, 2, 2, 2, 3, 0, 1, 1};
        private static final int[] FIRST_MOST = {30, 5, 5, 5, 5, 5, 5, 5, 5, 0, 5, 5};
        private static final int[] SECOND_MOST = {0, 20, 5, 5, 5, 5, 5, 5, 5, 0, 0, 0};
        private static final int THIRD_MOST = 30;

        int fault = 0;
        int place = NONE;
        private final int[] lines = new int[4 * MOST_LINES];
        private int size = 0;
        private int limited = 0;
        private int at = 0;
        private int token = THE_END;
        private int start = 0;
        private int number = 0;

        void read(byte[] tape, int length, int sort) {
            fault = 0;
            place = NONE;
            size = 0;
            limited = 0;
            at = 0;
            int end = Math.min(length, tape.length);
            boolean goesOn = true;
            for (int k = 0; k <= MOST_LINES && goesOn; k++) {
                goesOn = readLine(tape, end, sort);
            }
            if (fault == 0 && sort == 0 && tellsOfMissing()) {
                blame(4, end);
            }
        }

        /** False at the end, and at the first token with which no text goes on. */
        private boolean readLine(byte[] tape, int end, int sort) {
            nextToken(tape, end);
            if (token == THE_END) {
                return false;
            }
            int word = token == A_WORD ? wordOf(tape, sort) : NONE;
            if (word < 0 || word >= WORDS || size >= MOST_LINES) {
                return refuse();
            }
            countLine(word, sort);
            int base = 4 * size;
            lines[base] = word;
            for (int k = 1; k <= 3; k++) {
                lines[base + k] = NONE;
            }
            for (int k = 1; k <= NUMBERS[word] && k <= 3; k++) {
                nextToken(tape, end);
                if (token != A_NUMBER) {
                    return refuse();
                }
                lines[base + k] = number;
                if (number > mostOf(word, k) || isTheFirstAgain(word, k, base)) {
                    blame(2, start);
                }
            }
            nextToken(tape, end);
            if (token != A_SEMICOLON) {
                return refuse();
            }
            size++;
            return true;
        }

        private void countLine(int word, int sort) {
            if (sort < 0 || sort >= SORTS || (sort == 0 && word != PERSON)) {
                return;
            }
            limited++;
            if (limited > LIMIT[sort]) {
                blame(3, start);
            }
        }

        private static int mostOf(int word, int k) {
            if (word < 0 || word >= WORDS) {
                return 0;
            }
            if (k == 1) {
                return FIRST_MOST[word];
            }
            return k == 2 ? SECOND_MOST[word] : THIRD_MOST;
        }

        private boolean isTheFirstAgain(int word, int k, int base) {
            boolean wantsUnlike = word == FOLLOWS || word == HEARS || word == SELL;
            return k == 2 && wantsUnlike && lines[base + 1] == lines[base + 2];
        }

        /** FAULT 1 goes ahead of all others, wherever they are. */
        private boolean refuse() {
            fault = 1;
            place = start;
            return false;
        }

        private void blame(int which, int where) {
            if (fault == 0) {
                fault = which;
                place = where;
            }
        }

        private boolean tellsOfMissing() {
            for (int k = 0; k < size && k < MOST_LINES; k++) {
                int word = lines[4 * k];
                if ((word == KNOWS || word == HEARS) && lines[4 * k + 1] >= limited) {
                    return true;
                }
                if (word == HEARS && lines[4 * k + 2] >= limited) {
                    return true;
                }
            }
            return false;
        }

        private void nextToken(byte[] tape, int end) {
            while (at < end && (tape[at] == 10 || tape[at] == 32)) {
                at++;
            }
            start = at;
            if (at >= end) {
                token = THE_END;
            } else if (isLetter(tape[at])) {
                token = A_WORD;
                while (at < end && isLetter(tape[at])) {
                    at++;
                }
            } else if (isDigit(tape[at])) {
                readNumber(tape, end);
            } else {
                token = tape[at] == ';' ? A_SEMICOLON : NO_TOKEN;
                at++;
            }
        }

        private void readNumber(byte[] tape, int end) {
            number = 0;
            while (at < end && isDigit(tape[at])) {
                if (at - start < 2) {
                    number = 10 * number + tape[at] - '0';
                }
                at++;
            }
            token = at - start <= 2 ? A_NUMBER : NO_TOKEN;
        }

        private static boolean isLetter(int sign) {
            return sign >= 'a' && sign <= 'z';
        }

        private static boolean isDigit(int sign) {
            return sign >= '0' && sign <= '9';
        }

        private int wordOf(byte[] tape, int sort) {
            if (sort < 0 || sort >= SORTS) {
                return NONE;
            }
            for (int word = FIRST_WORD[sort]; word < FIRST_WORD[sort + 1]; word++) {
                if (isWritten(tape, nameOf(word))) {
                    return word;
                }
            }
            return NONE;
        }

        private boolean isWritten(byte[] tape, String name) {
            if (at - start != name.length()) {
                return false;
            }
            for (int k = 0; k < name.length() && start + k < tape.length; k++) {
                if (tape[start + k] != name.charAt(k)) {
                    return false;
                }
            }
            return true;
        }

        private static String nameOf(int word) {
            switch (word) {
                case 0:
                    return "person";
                case 1:
                    return "worth";
                case 2:
                    return "follows";
                case 3:
                    return "knows";
                case 4:
                    return "hears";
                case 5:
                    return "tell";
                case 6:
                    return "ask";
                case 7:
                    return "see";
                case 8:
                    return "sell";
                case 9:
                    return "eve";
                case 10:
                    return "asked";
                default:
                    return "told";
            }
        }

        Town toTown() {
            Town t = new Town();
            for (int k = 0; k < size && k < MOST_LINES; k++) {
                t.take(lines[4 * k], lines[4 * k + 1], lines[4 * k + 2]);
            }
            t.settle();
            return t;
        }

        /** The kinds of the rows are counted from the sort's first word on. */
        Rows toRows(int firstWord) {
            Rows rows = new Rows(Math.max(0, Math.min(size, MOST_LINES)));
            for (int k = 0; k < rows.size; k++) {
                System.arraycopy(lines, 4 * k, rows.numbers, 4 * k, 4);
                rows.numbers[4 * k] -= firstWord;
            }
            return rows;
        }
    }

    /** The DEEDS of a YEAR, or the LINES of a LOG: a kind and three numbers each. */
    private static final class Rows {
        final int size;
        final int[] numbers;

        Rows(int size) {
            this.size = size;
            this.numbers = new int[4 * size];
        }

        int at(int k, int what) {
            return k < 0 || k >= size || what < 0 || what > 3 ? NONE : numbers[4 * k + what];
        }

        int answer(int k, int what, int columns) {
            if (k == NONE && what == 0) {
                return size;
            }
            if (k < 0 || k >= size || what < 0 || what >= columns) {
                return NO_SUCH;
            }
            return at(k, what);
        }
    }

    /** A TOWN as told, with what is asked of its FACTS and PEOPLE one by one. */
    private static final class Town {
        int people = 0;
        final int[] worth = {1, 1, 1, 1, 1, 1};
        final int[] follows = new int[FACTS];
        final int[] cows = new int[PEOPLE];
        final int[] known = new int[PEOPLE];
        final int[] hears = new int[PEOPLE];
        final int[] heardBy = new int[PEOPLE];
        /** WORTH of each set of FACTS: searches ask for it thousands of times. */
        final int[] worthOf = new int[FACT_SETS];
        long closed = -1;

        void take(int word, int a, int b) {
            if (word == Reader.PERSON) {
                if (people < PEOPLE) {
                    cows[people] = a;
                    people++;
                }
                return;
            }
            if (a < 0 || a >= FACTS || a >= PEOPLE) {
                return;
            }
            if (word == Reader.WORTH) {
                worth[a] = b;
            } else if (word == Reader.FOLLOWS) {
                follows[a] |= 1 << b;
            } else if (word == Reader.KNOWS) {
                known[a] |= 1 << b;
            } else if (word == Reader.HEARS) {
                hears[a] |= 1 << b;
            }
        }

        /** Only when all lines are there is it clear what FOLLOWS from what is KNOWN. */
        void settle() {
            for (int by = 0; by < FACTS; by++) {
                for (int f = 0; f < FACTS; f++) {
                    follows[f] |= isIn(follows[f], by) ? follows[by] : 0;
                }
            }
            for (int p = 0; p < people; p++) {
                known[p] = withAll(known[p]);
                for (int q = 0; q < people; q++) {
                    heardBy[p] |= isIn(hears[q], p) ? 1 << q : 0;
                }
            }
            for (int bits = 1; bits < FACT_SETS; bits++) {
                int least = Integer.numberOfTrailingZeros(bits);
                worthOf[bits] = worthOf[bits & (bits - 1)] + (least < FACTS ? worth[least] : 0);
            }
            for (int f = 0; f < FACTS; f++) {
                for (int g = 0; g < FACTS; g++) {
                    closed &= isIn(follows[f], g) ? ~HAVING[f] | HAVING[g] : -1L;
                }
            }
        }

        boolean has(int person) {
            return person >= 0 && person < people;
        }

        boolean knows(int person, int fact) {
            return has(person) && isIn(known[person], fact);
        }

        int everyone() {
            return (1 << people) - 1;
        }

        int answer(int what) {
            if (what == 0) {
                return people;
            }
            int group = what / 10;
            int k = what % 10;
            if (what < 10 || k >= (group < 3 ? FACTS : people)) {
                return NONE;
            }
            switch (group) {
                case 1:
                    return worth[k];
                case 2:
                    return follows[k];
                case 3:
                    return cows[k];
                case 4:
                    return known[k];
                case 5:
                    return hears[k];
                default:
                    return NONE;
            }
        }

        int withAll(int facts) {
            int all = facts;
            for (int f = 0; f < FACTS; f++) {
                all |= isIn(facts, f) ? follows[f] : 0;
            }
            return all;
        }

        /** A FACT with all that FOLLOWS from it. */
        int wholeOf(int fact) {
            return fact >= 0 && fact < FACTS ? follows[fact] | 1 << fact : 0;
        }

        int whoKnow(int fact) {
            int who = 0;
            for (int p = 0; p < people; p++) {
                who |= isIn(known[p], fact) ? 1 << p : 0;
            }
            return who;
        }

        int knownBy(int howMany) {
            int facts = 0;
            for (int f = 0; f < FACTS; f++) {
                facts |= Integer.bitCount(whoKnow(f)) == howMany ? 1 << f : 0;
            }
            return facts;
        }

        int whole(int fact) {
            return worthOf[wholeOf(fact) & ALL_FACTS];
        }

        int dearest() {
            int at = 0;
            for (int f = 1; f < FACTS; f++) {
                if (whole(f) > whole(at)) {
                    at = f;
                }
            }
            return at;
        }

        int rootFacts() {
            int least = ALL_FACTS;
            for (int bits = 0; bits < FACT_SETS; bits++) {
                if (Integer.bitCount(bits) < Integer.bitCount(least) && withAll(bits) == ALL_FACTS) {
                    least = bits;
                }
            }
            return least;
        }

        private int ringOf(int fact) {
            int ring = 1 << fact;
            for (int f = 0; f < FACTS; f++) {
                ring |= isIn(follows[fact], f) && isIn(follows[f], fact) ? 1 << f : 0;
            }
            return ring;
        }

        /** Each ring is counted at its least FACT. */
        int rings() {
            int rings = 0;
            for (int f = 0; f < FACTS; f++) {
                rings += Integer.numberOfTrailingZeros(ringOf(f)) == f ? 1 : 0;
            }
            return rings;
        }

        int largestRing() {
            int most = 0;
            for (int f = 0; f < FACTS; f++) {
                most = Math.max(most, Integer.bitCount(ringOf(f)));
            }
            return most;
        }

        /** The two least are joined again and again: what is joined has one question more. */
        int codeLength() {
            int[] left = worth.clone();
            int sum = 0;
            for (int size = left.length; size > 1; size--) {
                moveLeastTo(left, size - 1);
                moveLeastTo(left, size - 2);
                left[size - 2] += left[size - 1];
                sum += left[size - 2];
            }
            return sum;
        }

        private static void moveLeastTo(int[] numbers, int last) {
            for (int k = 0; k < last && last < numbers.length; k++) {
                if (numbers[k] < numbers[last]) {
                    int kept = numbers[k];
                    numbers[k] = numbers[last];
                    numbers[last] = kept;
                }
            }
        }

        /** What all who HEAR him learn, if he alone tells this. */
        int gain(int person, int fact) {
            int all = wholeOf(fact);
            int sum = 0;
            for (int q = 0; q < people; q++) {
                sum += isIn(hears[q], person) ? worthOf[all & ~known[q] & ALL_FACTS] : 0;
            }
            return sum;
        }

        int bestFact(int person) {
            int at = NONE;
            int most = NONE;
            for (int f = 0; f < FACTS; f++) {
                int gain = knows(person, f) ? gain(person, f) : NONE;
                if (gain > most) {
                    most = gain;
                    at = f;
                }
            }
            return at;
        }

        int bestGain(int person) {
            int fact = bestFact(person);
            return fact == NONE ? 0 : gain(person, fact);
        }

        /** Sixty times the sum of all tellers' shares: 60 can be parted by 1 to 6. */
        long sixtiethsOfLuck(int person) {
            if (!has(person)) {
                return 0;
            }
            long sum = 0;
            for (int p = 0; p < people; p++) {
                int all = Integer.bitCount(known[p]);
                if (isIn(hears[person], p) && all > 0) {
                    sum += 60 / all * Integer.bitCount(known[p] & ~known[person]);
                }
            }
            return sum;
        }
    }

    /** A YEAR of a TOWN as it goes on, deed by deed. */
    private static final class Play {
        private static final int TELL = 0;
        private static final int ASK = 1;
        private static final int SEE = 2;
        private static final int SELL = 3;
        private static final int EVE = 4;

        int done = 0;
        int fire = NONE;
        int guessed = 0;
        final int[] cows = new int[PEOPLE];
        final int[] lostBy = new int[PEOPLE];
        final int[] toldOf = new int[FACTS];
        private int people = 0;
        private int years = 0;
        private int tellings = 0;
        private int lost = 0;
        private int seed = 0;
        private final int[] statements = new int[PEOPLE];
        private final int[] known = new int[PEOPLE];
        private final int[] suspected = new int[PEOPLE];

        void begin(Town t) {
            done = 0;
            fire = NONE;
            guessed = 0;
            people = t.people;
            years = 0;
            tellings = 0;
            lost = 0;
            System.arraycopy(t.cows, 0, cows, 0, PEOPLE);
            System.arraycopy(t.known, 0, known, 0, PEOPLE);
            Arrays.fill(lostBy, 0);
            Arrays.fill(toldOf, 0);
            Arrays.fill(statements, 1);
            Arrays.fill(suspected, 0);
        }

        void playAll(Town t, Rows year) {
            begin(t);
            play(t, year, year.size);
        }

        /** The first n DEEDS, or as many as can be. */
        void play(Town t, Rows year, int n) {
            boolean goesOn = true;
            for (int k = 0; k < n && k < year.size && goesOn; k++) {
                goesOn = goes(t, year.at(k, 0), year.at(k, 1), year.at(k, 2), year.at(k, 3));
            }
        }

        /** Does a DEED, if it can be. */
        private boolean goes(Town t, int kind, int a, int b, int c) {
            boolean could = kind == EVE;
            if (could) {
                passEve();
            } else if (a >= 0 && a < people) {
                could = kind == SELL ? sells(a, b, c) : speaks(t, kind, a, b);
            }
            done += could ? 1 : 0;
            return could;
        }

        private void passEve() {
            years++;
            for (int p = 0; p < people; p++) {
                lost += statements[p];
                lostBy[p] += statements[p];
                statements[p] = 1;
                suspected[p] = 0;
            }
        }

        private boolean sells(int seller, int buyer, int price) {
            boolean could = seller >= 0 && seller < people && buyer >= 0 && buyer < people;
            if (!could || statements[seller] < 1 || cows[buyer] < price) {
                return false;
            }
            statements[seller]--;
            statements[buyer]++;
            cows[buyer] -= price;
            cows[seller] = Math.min(MOST_COWS, cows[seller] + price);
            return true;
        }

        private boolean speaks(Town t, int kind, int person, int fact) {
            if (person < 0 || person >= people || !isFact(fact)) {
                return false;
            }
            if (kind == TELL) {
                return tells(t, person, fact);
            }
            if (kind == ASK) {
                asks(t, person, fact);
            } else if (kind == SEE) {
                learns(t, person, fact);
            }
            return true;
        }

        private boolean tells(Town t, int person, int fact) {
            if (statements[person] < 1 || !isIn(known[person], fact)) {
                return false;
            }
            statements[person]--;
            tellings++;
            toldOf[fact]++;
            fire = fire == NONE ? done : fire;
            for (int q = 0; q < people; q++) {
                if (isIn(t.hears[q], person)) {
                    learns(t, q, fact);
                }
            }
            return true;
        }

        private void asks(Town t, int person, int fact) {
            for (int q = 0; q < people; q++) {
                boolean wonders = isIn(t.hears[q], person) && !isIn(known[q], fact);
                if (wonders && isIn(suspected[q], fact)) {
                    learns(t, q, fact);
                    guessed++;
                } else if (wonders) {
                    suspected[q] |= 1 << fact;
                }
            }
        }

        private void learns(Town t, int person, int fact) {
            if (person < 0 || person >= people) {
                return;
            }
            known[person] |= t.wholeOf(fact);
            suspected[person] &= ~known[person];
        }

        void drawFrom(Town t, int from, int n) {
            seed = from;
            for (int k = 0; k < n && k < DRAWS; k++) {
                drawDeed(t);
            }
        }

        private void drawDeed(Town t) {
            int sort = below(8);
            if (sort >= 6) {
                goes(t, EVE, NONE, NONE, NONE);
            } else if (sort == 5) {
                drawSale(t);
            } else if (people > 0) {
                int person = below(people);
                goes(t, sort / 2, person, below(FACTS), NONE);
            }
        }

        private void drawSale(Town t) {
            if (people < 2) {
                return;
            }
            int seller = below(people);
            int buyer = (below(people - 1) + 1 + seller) % people;
            goes(t, SELL, seller, buyer, below(6));
        }

        private int below(int n) {
            seed = seed * 1103515245 + 12345;
            return n > 0 ? (seed >>> 16) % n : 0;
        }

        int answer(int what) {
            if (what == 0) {
                return years;
            }
            if (what == 1) {
                return tellings;
            }
            if (what == 2) {
                return lost;
            }
            int p = what % 10;
            if (what < 10 || p >= people) {
                return NONE;
            }
            switch (what / 10) {
                case 1:
                    return statements[p];
                case 2:
                    return cows[p];
                case 3:
                    return known[p];
                case 4:
                    return suspected[p];
                default:
                    return NONE;
            }
        }

        int wisest(Town t) {
            int at = NONE;
            int most = NONE;
            for (int p = 0; p < people; p++) {
                int worth = t.worthOf[known[p] & ALL_FACTS];
                if (worth > most) {
                    most = worth;
                    at = p;
                }
            }
            return at;
        }
    }

    /** The sets of FACTS that FIT, as bits of a long. */
    private static final class Sets {

        static long fitting(Town t, Rows log) {
            long sets = t.closed;
            for (int k = 0; k < log.size; k++) {
                int fact = log.at(k, 1);
                if (isFact(fact)) {
                    sets &= log.at(k, 0) == 0 ? ~HAVING[fact] : HAVING[fact];
                }
            }
            return sets;
        }

        static int inAll(long sets) {
            if (sets == 0) {
                return NONE;
            }
            int all = 0;
            for (int f = 0; f < FACTS; f++) {
                all |= (sets & ~HAVING[f]) == 0 ? 1 << f : 0;
            }
            return all;
        }

        static int halving(long sets) {
            if (sets == 0) {
                return NONE;
            }
            int at = 0;
            int least = FACT_SETS + 1;
            for (int f = 0; f < FACTS; f++) {
                int greater = Math.max(Long.bitCount(sets & HAVING[f]), Long.bitCount(sets & ~HAVING[f]));
                if (greater < least) {
                    least = greater;
                    at = f;
                }
            }
            return at;
        }

        static int whose(Town t, long sets) {
            int who = 0;
            for (int p = 0; p < t.people; p++) {
                who |= has(sets, t.known[p]) ? 1 << p : 0;
            }
            return who;
        }

        static int nth(long sets, int k) {
            int left = k;
            for (int bits = 0; bits < FACT_SETS; bits++) {
                if (has(sets, bits)) {
                    if (left == 0) {
                        return bits;
                    }
                    left--;
                }
            }
            return NO_SUCH;
        }

        static int smallest(long sets) {
            int least = NONE;
            for (int bits = 0; bits < FACT_SETS; bits++) {
                if (has(sets, bits) && (least == NONE || Integer.bitCount(bits) < least)) {
                    least = Integer.bitCount(bits);
                }
            }
            return least;
        }

        static int largest(long sets) {
            int most = NONE;
            for (int bits = 0; bits < FACT_SETS; bits++) {
                if (has(sets, bits)) {
                    most = Math.max(most, Integer.bitCount(bits));
                }
            }
            return most;
        }

        private static boolean has(long sets, int bits) {
            return (sets >>> bits & 1) != 0;
        }
    }

    /** Who comes to KNOW by who HEARS whom. */
    private static final class Spread {
        private static final int FAR = 1000;
        private final int[] toGo = new int[PEOPLE_SETS];

        int tellers(Town t, int knowers, int k) {
            measure(t);
            int start = knowers & t.everyone();
            if (toGo[start] >= FAR) {
                return NONE;
            }
            if (k == NONE) {
                return toGo[start];
            }
            if (k < 0 || k >= toGo[start]) {
                return NONE;
            }
            int who = start;
            int teller = NONE;
            for (int step = 0; step <= k && step < PEOPLE; step++) {
                teller = firstTeller(t, who);
                who |= t.has(teller) ? t.heardBy[teller] : 0;
            }
            return teller;
        }

        /** By a telling a set only becomes a greater number, so that greater ones are measured first. */
        private void measure(Town t) {
            int everyone = t.everyone();
            for (int who = everyone; who >= 0; who--) {
                int least = who == everyone ? 0 : FAR;
                for (int p = 0; p < t.people; p++) {
                    int then = who | t.heardBy[p];
                    if (isIn(who, p) && then != who) {
                        least = Math.min(least, toGo[then] + 1);
                    }
                }
                toGo[who] = least;
            }
        }

        private int firstTeller(Town t, int who) {
            for (int p = 0; p < t.people; p++) {
                if (isIn(who, p) && toGo[who | t.heardBy[p]] == toGo[who] - 1) {
                    return p;
                }
            }
            return NONE;
        }

        static int steps(Town t, int knowers, int person) {
            int who = knowers;
            for (int step = 0; step <= t.people; step++) {
                if (isIn(who, person)) {
                    return step;
                }
                who = withHearers(t, who);
            }
            return NONE;
        }

        private static int withHearers(Town t, int who) {
            int all = who;
            for (int p = 0; p < t.people; p++) {
                all |= isIn(who, p) ? t.heardBy[p] : 0;
            }
            return all;
        }

        static int audience(Town t, int person) {
            int who = 1 << person;
            for (int step = 0; step < t.people; step++) {
                who = withHearers(t, who);
            }
            return who;
        }

        static int loudest(Town t) {
            int at = NONE;
            int most = NONE;
            for (int p = 0; p < t.people; p++) {
                if (Integer.bitCount(t.heardBy[p]) > most) {
                    most = Integer.bitCount(t.heardBy[p]);
                    at = p;
                }
            }
            return at;
        }

        static int deaf(Town t) {
            int who = 0;
            for (int p = 0; p < t.people; p++) {
                who |= t.hears[p] == 0 ? 1 << p : 0;
            }
            return who;
        }

        static int choir(Town t) {
            int best = 0;
            for (int who = 1; who <= t.everyone(); who++) {
                if (Integer.bitCount(who) > Integer.bitCount(best) && noneHears(t, who)) {
                    best = who;
                }
            }
            return best;
        }

        private static boolean noneHears(Town t, int who) {
            for (int p = 0; p < t.people; p++) {
                if (isIn(who, p) && (t.hears[p] & who) != 0) {
                    return false;
                }
            }
            return true;
        }

        static int twins(Town t) {
            int couples = 0;
            for (int p = 0; p < t.people; p++) {
                for (int q = 0; q < p; q++) {
                    couples += t.known[p] == t.known[q] ? 1 : 0;
                }
            }
            return couples;
        }

        static int cover(Town t) {
            int best = t.everyone();
            int all = knownTogether(t, best);
            for (int who = 0; who <= t.everyone(); who++) {
                if (Integer.bitCount(who) < Integer.bitCount(best) && knownTogether(t, who) == all) {
                    best = who;
                }
            }
            return best;
        }

        private static int knownTogether(Town t, int who) {
            int facts = 0;
            for (int p = 0; p < t.people; p++) {
                facts |= isIn(who, p) ? t.known[p] : 0;
            }
            return facts;
        }
    }

    /** Searches for the first row by numbers that is best: rows are tried in their order, and a later one must be better. */
    private static final class Search {
        private static final int NOBODY_TELLS = 99;

        int most = NONE;
        int firstMove = NONE;
        private final int[] row = new int[6];
        private final int[] trial = new int[6];
        /** What each KNOWS behind k tellings, six numbers a k. */
        private final int[] heard = new int[(PEOPLE + 1) * PEOPLE];
        /** How much the PEOPLE from k on may add at most. */
        private final int[] hope = new int[PEOPLE + 1];
        /** What a couple gains, NONE where there can't be one. */
        private final int[] couples = new int[PEOPLE * PEOPLE];
        private final int[] bests = new int[PEOPLE];
        private boolean wedding = false;

        /** How much (k NONE), or the k-th of the row. */
        int found(int k) {
            if (k == NONE) {
                return most;
            }
            return k >= 0 && k < row.length ? row[k] : NONE;
        }

        private void keep(int value) {
            if (value > most) {
                most = value;
                System.arraycopy(trial, 0, row, 0, row.length);
            }
        }

        void ring(Town t) {
            most = NONE;
            hope[t.people] = 0;
            for (int p = t.people - 1; p >= 0; p--) {
                hope[p] = hope[p + 1] + t.bestGain(p);
            }
            System.arraycopy(t.known, 0, heard, 0, PEOPLE);
            ringFrom(t, 0, 0);
        }

        /** What is told alone is never worth less than beside others, so that hope ends vain trials. */
        private void ringFrom(Town t, int p, int gained) {
            if (p < 0 || p >= t.people) {
                keep(gained);
                return;
            }
            if (gained + hope[p] <= most) {
                return;
            }
            for (int f = 0; f < FACTS; f++) {
                if (t.knows(p, f)) {
                    trial[p] = f;
                    ringFrom(t, p + 1, gained + hearFrom(t, p, p, t.wholeOf(f)));
                }
            }
            trial[p] = NOBODY;
            ringFrom(t, p + 1, gained + hearFrom(t, p, p, 0));
        }

        /** What is learnt when a PERSON tells behind k tellings; who KNOWS what then is behind k + 1. */
        private int hearFrom(Town t, int k, int person, int facts) {
            int gain = 0;
            if (k < 0 || k >= PEOPLE || person < 0 || person >= PEOPLE) {
                return gain;
            }
            for (int q = 0; q < t.people; q++) {
                int before = heard[PEOPLE * k + q];
                int fresh = isIn(t.hears[q], person) ? facts & ~before & ALL_FACTS : 0;
                gain += t.worthOf[fresh];
                heard[PEOPLE * (k + 1) + q] = before | fresh;
            }
            return gain;
        }

        void wed(Town t) {
            for (int p = 0; p < t.people; p++) {
                for (int q = 0; q < t.people; q++) {
                    couples[PEOPLE * p + q] = q > p ? Integer.bitCount(t.known[p] | t.known[q]) : NONE;
                }
            }
            wedding = true;
            most = NONE;
            pairFrom(t, 0, 0, 0);
        }

        void trade(Town t) {
            for (int p = 0; p < t.people; p++) {
                bests[p] = t.bestGain(p);
            }
            for (int p = 0; p < t.people; p++) {
                for (int q = 0; q < t.people; q++) {
                    int more = bests[q] - bests[p];
                    couples[PEOPLE * p + q] = more > 0 ? more : NONE;
                }
            }
            wedding = false;
            most = NONE;
            pairFrom(t, 0, 0, 0);
        }

        private void pairFrom(Town t, int p, int used, int sum) {
            if (p < 0 || p >= t.people) {
                keep(sum);
                return;
            }
            if (isIn(used, p)) {
                pairFrom(t, p + 1, used, sum);
                return;
            }
            for (int q = 0; q < t.people; q++) {
                int gain = couples[PEOPLE * p + q];
                if (gain != NONE && !isIn(used, q)) {
                    trial[p] = q;
                    trial[q] = wedding ? p : NOBODY;
                    pairFrom(t, p + 1, used | 1 << p | 1 << q, sum + gain);
                }
            }
            trial[p] = NOBODY;
            pairFrom(t, p + 1, used, sum);
        }

        void link(Town t) {
            most = NONE;
            linkFrom(t, 0, ALL_FACTS, 0);
        }

        private void linkFrom(Town t, int size, int next, int used) {
            keep(size);
            if (size < 0 || size >= FACTS) {
                return;
            }
            for (int f = 0; f < FACTS; f++) {
                if (isIn(next & ~used, f)) {
                    trial[size] = f;
                    linkFrom(t, size + 1, t.follows[f], used | 1 << f);
                }
            }
        }

        void takeTurns(Town t, int n) {
            System.arraycopy(t.known, 0, heard, 0, PEOPLE);
            most = leadOf(t, 0, n, 0);
        }

        /** How much more he has whose turn it is. A turn, too, is heard by those alone who HEAR the teller. */
        private int leadOf(Town t, int turn, int left, int used) {
            int first = NONE;
            int lead = 0;
            if (left > 0 && turn >= 0 && turn < TURNS) {
                first = NOBODY_TELLS;
                lead = hearFrom(t, turn, 0, 0) - leadOf(t, turn + 1, left - 1, used);
                for (int p = 0; p < t.people; p++) {
                    int can = isIn(used, p) ? 0 : heard[PEOPLE * turn + p];
                    for (int f = 0; f < FACTS; f++) {
                        int value = isIn(can, f) ? leadBy(t, turn, left, used, p, f) : lead - 1;
                        if (value > lead || (value == lead && first == NOBODY_TELLS)) {
                            lead = value;
                            first = 10 * p + f;
                        }
                    }
                }
            }
            firstMove = first;
            return lead;
        }

        private int leadBy(Town t, int turn, int left, int used, int p, int f) {
            int gain = hearFrom(t, turn, p, t.wholeOf(f));
            return left > 1 ? gain - leadOf(t, turn + 1, left - 1, used | 1 << p) : gain;
        }
    }

    private static final class Fraction {

        /** m times under times the mean of the better of a thing worth 1 to m and over / under. */
        static long sumOfBetter(int m, long over, long under) {
            long sum = 0;
            for (int worth = 1; worth <= m; worth++) {
                sum += Math.max(worth * under, over);
            }
            return sum;
        }

        /** The least whole number from 1 on that is not below over / under. */
        static long upward(long over, long under) {
            return under <= 0 ? 1 : Math.max(1, (over + under - 1) / under);
        }

        /** One part of over / under in least terms. */
        static long part(long over, long under, boolean wantsUnder) {
            long both = commonOf(over, under);
            if (both <= 0) {
                return 0;
            }
            return wantsUnder ? under / both : over / both;
        }

        private static long commonOf(long a, long b) {
            long greater = a;
            long less = b;
            for (int step = 0; step < 200 && less != 0; step++) {
                long rest = greater % less;
                greater = less;
                less = rest;
            }
            return greater;
        }
    }
}
