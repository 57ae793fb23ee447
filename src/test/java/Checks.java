/** What the tests share: answers beside those that are due, edges, and texts told by way of the TAPE. */
class Checks {
    static final int NONE = TwisterCourt.NONE;
    static final int MIN = Integer.MIN_VALUE;
    static final int MAX = Integer.MAX_VALUE;

    private static int wrong = 0;
    private static String words = "";

    /** A call with one number left open; a boolean counts 1 or 0. */
    interface Call {
        long of(int v);
    }

    /** Which sentence of the document the next answers are due by. */
    static void sentence(String itsWords) {
        words = itsWords;
    }

    static void due(String what, long got, long want) {
        if (got != want) {
            wrong++;
            System.out.println(words + ": " + what + " answered " + got + ", due is " + want);
        }
    }

    static void due(String what, boolean got, boolean want) {
        due(what, bit(got), bit(want));
    }

    static void due(String what, String got, String want) {
        if (!got.equals(want)) {
            wrong++;
            System.out.println(words + ": " + what + " was " + want + " and is " + got);
        }
    }

    static int bit(boolean is) {
        return is ? 1 : 0;
    }

    /** Tells how it went; exit code 1 if an answer was not as due. */
    static void finish(String allRight) {
        System.out.println(wrong == 0 ? allRight : wrong + " answers are not as due");
        if (wrong != 0) {
            System.exit(1);
        }
    }

    /** Answers of their own at both bounds; the refusal at one beyond on either side, and far beyond. */
    static void edges(String what, int least, long atLeast, int most, long atMost, long refusal, Call call) {
        due(what + " " + least, call.of(least), atLeast);
        due(what + " " + most, call.of(most), atMost);
        due(what + " " + (least - 1), call.of(least - 1), refusal);
        due(what + " " + (most + 1), call.of(most + 1), refusal);
        due(what + " MIN", call.of(MIN), refusal);
        due(what + " MAX", call.of(MAX), refusal);
    }

    // ------------------------------------------------------------------------------------------------ texts

    /** The TAPE is that text alone. */
    static void tape(TwisterCourt x, String s) {
        x.end(0);
        int[] n = new int[5];
        for (int from = 0; from < s.length(); from += 20) {
            for (int i = 0; i < 20; i++) {
                int c = from + i < s.length() ? s.charAt(from + i) & 255 : ' ';
                n[i / 4] = n[i / 4] << 8 | c;
            }
            x.feed(n[0], n[1], n[2], n[3], n[4]);
        }
        x.end(s.length());
    }

    static int tell(TwisterCourt x, int k, String s) {
        tape(x, s);
        return x.text(k);
    }

    static void good(TwisterCourt x, int k, String s, int lines) {
        due("text " + k + " '" + s + "'", tell(x, k, s), lines);
        due("fault of '" + s + "'", x.fault(0), 0);
        due("place of '" + s + "'", x.fault(1), NONE);
    }

    static void bad(TwisterCourt x, int k, String s, int fault, int place) {
        due("text " + k + " '" + s + "'", tell(x, k, s), NONE);
        due("fault of '" + s + "'", x.fault(0), fault);
        due("place of '" + s + "'", x.fault(1), place);
    }

    // ------------------------------------------------------------------------------------------------ taverns

    /** Persons 0, 1, 2 with LIPS 4, 9, 0; BARGAIN 0 of 0 and 1 with two PHRASES, 1 of 1 and 2 with three. */
    static TwisterCourt three() {
        TwisterCourt x = new TwisterCourt();
        x.person(4);
        x.person(9);
        x.person(0);
        x.bargain(0, 1, 2);
        x.bargain(1, 2, 3);
        return x;
    }

    /** As three(), and every PHRASE rolls off. */
    static TwisterCourt fluent() {
        TwisterCourt x = three();
        tell(x, 0, "rolls 1000;");
        return x;
    }

    /** Twelve PERSONS, fourteen BARGAINS between the first two, from 0 to 1, of 1 .. 9 PHRASES; all rolls off. */
    static TwisterCourt full() {
        TwisterCourt x = new TwisterCourt();
        for (int i = 0; i < 12; i++) {
            x.person(i % 10);
        }
        for (int i = 0; i < 14; i++) {
            x.bargain(0, 1, 1 + i % 9);
        }
        tell(x, 0, "rolls 1000;");
        return x;
    }

    /** As fluent(), on that DAY (60 DAYS a call). */
    static TwisterCourt onDay(int day) {
        TwisterCourt x = fluent();
        for (int gone = 0; gone < day; gone += 60) {
            x.days(Math.min(60, day - gone));
        }
        return x;
    }

    /** STATE behind one DRAW, by numbers that do not wrap. */
    static int drawn(int state) {
        long next = (1664525L * (state & 0xffffffffL) + 1013904223L) % 4294967296L;
        return (int) next;
    }

    /** What a DRAW of m is from that STATE. */
    static int draw(int state, int m) {
        return (int) ((drawn(state) & 0xffffffffL) / 256 % m);
    }
}
