/** What the tests share: telling texts to an object, and counting the answers that are not as due. */
final class Check {
    private static int wrong = 0;
    private static int seen = 0;
    private static int sentences = 0;
    private static String sentence = "";

    private Check() {
    }

    /** Feeds a text behind the tape, whose signs are bytes. */
    static void feed(OneStatement x, int had, String text) {
        for (int at = 0; at < text.length(); at += 20) {
            int[] five = new int[5];
            for (int k = 0; k < 20; k++) {
                int sign = at + k < text.length() ? text.charAt(at + k) : ' ';
                five[k / 4] = five[k / 4] << 8 | sign & 255;
            }
            due("feed", x.feed(five[0], five[1], five[2], five[3], five[4]), had + at + 20);
        }
        due("end", x.end(had + text.length()), had + text.length());
    }

    static int tell(OneStatement x, int sort, int at, String text) {
        x.end(0);
        feed(x, 0, text);
        return x.text(sort, at);
    }

    /** A new object with these texts, none where there is null. */
    static OneStatement with(String town, String year, String log) {
        OneStatement x = new OneStatement();
        if (town != null) {
            due(town, tell(x, 0, -1, town), 0);
        }
        if (year != null) {
            due(year, tell(x, 1, -1, year), 0);
        }
        if (log != null) {
            due(log, tell(x, 2, -1, log), 0);
        }
        return x;
    }

    /** The sentence of the document that the next answers are held against. */
    static void says(String words) {
        sentence = " (" + words + ")";
        sentences++;
    }

    static void due(String call, long got, long want) {
        seen++;
        if (got != want) {
            wrong++;
            if (wrong <= 50) {
                System.out.println(call + " answered " + got + ", due is " + want + sentence);
            }
        }
    }

    static void due(String call, boolean got, boolean want) {
        due(call, got ? 1 : 0, want ? 1 : 0);
    }

    static void finish() {
        String of = sentences == 0 ? "" : " to " + sentences + " sentences";
        System.out.println(seen + " answers" + of + ", " + wrong + " not as due");
        if (wrong != 0 || seen == 0) {
            System.exit(1);
        }
    }
}
