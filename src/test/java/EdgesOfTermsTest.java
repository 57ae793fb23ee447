/**
 * "What it is" and the Terms: the STATE of draws, the bounds of what there is, the TEXTS and their FAULTS, a DAY and what
 * is done by hand, UNDO and THE IMAGE, each at its boundary and at one beyond it on either side. The bounds of what is
 * asked IN THOUGHT stand in EdgesOfPromisesTest, with the promises that ask for it.
 */
public final class EdgesOfTermsTest extends Checks {
    public static void main(String[] args) {
        calls();
        draws();
        atFirst();
        persons();
        bargains();
        clear();
        dayBounds();
        sixteenLines();
        daysOfLines();
        numbersOfLines();
        bargainsAndPersonsOfLines();
        hears();
        keywords();
        numbers();
        blanks();
        faultOneAtEachPlace();
        faultOneAtTheEnd();
        faultTwo();
        faultThreeOpened();
        faultsByPlace();
        intsWrap();
        quotientsTowardsNone();
        heldToBounds();
        firstLineThatIsSo();
        withoutLaw();
        namesOfTheLaw();
        tavernOfADay();
        twistsOfADay();
        rollsAndDraws();
        costsOfASlip();
        blursOfADay();
        byHand();
        bookIsFull();
        bookLines();
        thoughtRolls();
        thoughtDays();
        thoughtPersons();
        holdsWithinSixty();
        sixAreKept();
        undoOfEach();
        forgets();
        forgetsNot();
        imageMoreThanOnce();
        imageButFor();
        finish("every edge of the Terms holds");
    }

    // ------------------------------------------------------------------------------------------------ what it is

    private static void calls() {
        sentence("at most 512 calls");
        TwisterCourt x = new TwisterCourt();
        for (int i = 1; i <= 510; i++) {
            due("call " + i, x.state(i), i - 1);
        }
        due("call 511", x.look(8), 510);
        due("call 512", x.state(0), 510);
        // what later calls answer is free; that they end without a throw is not
        x.state(7);
        x.days(60);
        x.look(6);
        sentence("at most 512 calls, each as long as can be");
        TwisterCourt y = full();
        tell(y, 1, "on 0 bargain 0 first;on 0 bargain 13 second;");
        for (int i = 0; i < 166; i++) {
            y.days(60);
            due("day", y.look(6), 60 * (i + 1));
        }
        for (int i = 0; i < 100; i++) {
            due("to say the ninth", y.act(0, 8), i == 0);
        }
    }

    private static void draws() {
        sentence("STATE: 1664525 times itself + 1013904223 (ints, which wrap)");
        TwisterCourt x = fluent();
        // BARGAIN 0 has two PHRASES, so two DRAWS
        for (int state : new int[] {0, 1, -1, MAX, MIN, 1013904223, -1013904223, 1 << 30, 255, 256}) {
            x.state(state);
            x.act(0, 0);
            due("behind two draws from " + state, x.look(8), drawn(drawn(state)));
            x.undo();
            due("undone", x.look(8), state);
        }
        sentence("STATE: its highest 24 bits (without sign) modulo m");
        int below = 0;
        for (int state : new int[] {0, 1, -1, MAX, MIN, 3, 12345, -54321, 1 << 30, -(1 << 30)}) {
            int d = draw(state, 1000);
            below += bit(drawn(state) < 0);
            if (d > 0) {
                TwisterCourt at = three();
                tell(at, 0, "rolls " + d + ";");
                at.state(state);
                at.act(0, 0);
                due("at the draw he slips on the first, from " + state, at.book(0, 1) * 10 + at.book(0, 3), 11);
            }
            TwisterCourt above = three();
            tell(above, 0, "rolls " + (d + 1) + " when phrase=1;rolls 0;");
            above.state(state);
            above.act(0, 0);
            due("above it the first rolls off, from " + state, above.book(0, 1) * 10 + above.book(0, 3), 12);
        }
        due("of both signs", below > 2 && below < 8, true);
    }

    // ------------------------------------------------------------------------------------------------ 1

    private static void atFirst() {
        sentence("1: at first");
        TwisterCourt x = three();
        due("state", x.look(8), 0);
        due("ale, noise, day", x.look(4) + x.look(5) + x.look(6), 0);
        due("held, owes", x.of(2, 1) + x.of(2, 2), 0);
        due("clear", x.deal(1, 3), 9);
        due("spoken, is", x.deal(1, 4) + x.deal(1, 5) + x.deal(1, 6), 0);
        for (int what = 9; what <= 12; what++) {
            due("the texts are empty", x.look(what), 0);
        }
    }

    private static void persons() {
        sentence("1: PERSONS 0 .. 11 as they come");
        TwisterCourt x = new TwisterCourt();
        for (int i = 0; i < 12; i++) {
            due("not yet " + i, x.of(i, 0), NONE);
            due("person", x.person(9 - i % 10), i);
            due("now " + i, x.of(i, 0), 9 - i % 10);
        }
        due("a thirteenth", x.person(5), NONE);
        due("no 12", x.of(12, 0), NONE);
        sentence("1: LIPS 0 .. 9");
        due("0", x.of(9, 0), 0);
        due("9", x.of(0, 0), 9);
    }

    private static void bargains() {
        sentence("1: BARGAINS 0 .. 13 as they come");
        TwisterCourt x = three();
        for (int i = 2; i < 14; i++) {
            due("not yet " + i, x.deal(i, 2), NONE);
            due("bargain", x.bargain(i % 3, (i + 1) % 3, i % 9 + 1), i);
            due("first of " + i, x.deal(i, 0), i % 3);
            due("second of " + i, x.deal(i, 1), (i + 1) % 3);
            due("phrases of " + i, x.deal(i, 2), i % 9 + 1);
        }
        due("a fifteenth", x.bargain(0, 1, 1), NONE);
        due("no 14", x.deal(14, 2), NONE);
        sentence("1: between a FIRST and a SECOND PERSON (unlike)");
        TwisterCourt y = three();
        due("the same two again", y.bargain(0, 1, 2), 2);
        due("and the other way round", y.bargain(1, 0, 2), 3);
    }

    private static void clear() {
        sentence("1: CLEAR 0 .. 9");
        TwisterCourt x = fluent();
        for (int c = 9; c >= 1; c--) {
            due("told " + c, x.set(1, 0, c), true);
            due("is " + c, x.deal(0, 3), c);
        }
        due("0 is not told", x.set(1, 0, 0), false);
        due("10 neither", x.set(1, 0, 10), false);
        x.act(3, 0);
        due("0 by blurring", x.deal(0, 3), 0);
        x.act(2, 0);
        due("9 by clearing", x.deal(0, 3), 9);
    }

    private static void dayBounds() {
        sentence("1: DAY 0 .. 9999");
        TwisterCourt x = onDay(9998);
        due("to 9999", x.days(1), 0);
        due("no further", x.days(1), NONE);
        due("said on 9999", x.act(0, 0), true);
        due("and told so", x.book(0, 0), 9999);
        due("day in the law", tell(x, 0, "rolls day-9000;"), 1);
        due("rolls", x.deal(0, 11), 999);
        TwisterCourt y = new TwisterCourt();
        due("day 0", y.look(6), 0);
        due("nothing ahead of it", y.undo(), false);
    }

    // ------------------------------------------------------------------------------------------------ 2

    private static final String[] LINES = {"costs 1;", "on 0 bargain 0 first;", "on 0 ale 1;", "bargain 0 by 2;"};

    private static void sixteenLines() {
        for (int k = 0; k <= 3; k++) {
            sentence("2: 16 lines of each at most, text " + k);
            TwisterCourt x = three();
            int at = 16 * LINES[k].length();
            good(x, k, "", 0);
            good(x, k, LINES[k], 1);
            good(x, k, LINES[k].repeat(15), 15);
            good(x, k, LINES[k].repeat(16), 16);
            due("look", x.look(9 + k), 16);
            bad(x, k, LINES[k].repeat(17), 3, at);
            due("sixteen stay", x.look(9 + k), 16);
            sentence("2: FAULT 3 (at its KEYWORD) the 17th line of text " + k);
            String word = LINES[k].substring(0, LINES[k].indexOf(' '));
            bad(x, k, LINES[k].repeat(16) + word, 3, at);
            bad(x, k, LINES[k].repeat(16) + "  \n" + word + " ?", 3, at + 3);
            bad(x, k, LINES[k].repeat(16) + word + "s", 1, at);
            bad(x, k, LINES[k].repeat(16) + ";", 1, at);
            bad(x, k, LINES[k].repeat(16) + "7", 1, at);
            bad(x, k, LINES[k].repeat(15) + word, 1, at - LINES[k].length() + word.length());
            good(x, k, LINES[k].repeat(16) + " \n ", 16);
        }
    }

    private static void daysOfLines() {
        sentence("2: DAY 0 .. 999 of TWISTS, of TAVERN");
        String[] rest = {" bargain 0 first;", " ale 4;"};
        for (int k = 1; k <= 2; k++) {
            TwisterCourt x = three();
            good(x, k, "on 0" + rest[k - 1], 1);
            good(x, k, "on 999" + rest[k - 1], 1);
            good(x, k, "on 0999" + rest[k - 1], 1);
            bad(x, k, "on 1000" + rest[k - 1], 2, 3);
            bad(x, k, "on 9999" + rest[k - 1], 2, 3);
            bad(x, k, "on 10000" + rest[k - 1], 1, 3);
            bad(x, k, "on 00999" + rest[k - 1], 1, 3);
            bad(x, k, "on -1" + rest[k - 1], 1, 3);
        }
        sentence("2: what is told for DAY 999 is done on it");
        TwisterCourt x = onDay(998);
        tell(x, 1, "on 0 bargain 0 second;on 999 bargain 0 first;");
        tell(x, 2, "on 0 noise 1;on 999 ale 1;");
        x.days(1);
        due("998 is gone", x.look(4) + x.look(5) + x.look(7), 0);
        x.days(1);
        due("999: ale alone", 10 * x.look(4) + x.look(5), 10);
        due("999: said by the first alone", 10 * x.deal(0, 4) + x.deal(0, 5), 10);
        x.days(1);
        due("1000: one line still", x.look(7), 1);
        sentence("2: what is told for DAY 0 is done on it alone");
        TwisterCourt y = fluent();
        tell(y, 1, "on 0 bargain 0 first;on 1 bargain 0 second;");
        tell(y, 2, "on 0 ale 1;");
        y.days(1);
        due("0", 100 * y.look(4) + 10 * y.deal(0, 4) + y.deal(0, 5), 110);
        y.set(2, 0, 0);
        y.days(1);
        due("1", 100 * y.look(4) + 10 * y.deal(0, 4) + y.deal(0, 5), 11);
    }

    private static void numbersOfLines() {
        sentence("2: N 0 .. 9");
        for (String what : new String[] {"ale ", "noise ", "lips 0 "}) {
            String line = "on 0 " + what;
            TwisterCourt x = three();
            x.set(2, 0, 5);
            x.set(3, 0, 5);
            for (int n : new int[] {0, 9}) {
                good(x, 2, line + n + ";", 1);
                due(what + "in thought changes nothing", x.goes(1, 0), 0);
                x.days(1);
                due(what + n, what.equals("ale ") ? x.look(4) : what.equals("noise ") ? x.look(5) : x.of(0, 0), n);
                x.undo();
            }
            good(x, 2, line + "0009;", 1);
            bad(x, 2, line + "10;", 2, line.length());
            bad(x, 2, line + "9999;", 2, line.length());
            bad(x, 2, line + "00009;", 1, line.length());
            bad(x, 2, line + "-1;", 1, line.length());
        }
    }

    private static void bargainsAndPersonsOfLines() {
        sentence("2: FAULT 2, a BARGAIN, a PERSON that there is not");
        TwisterCourt none = new TwisterCourt();
        bad(none, 1, "on 0 bargain 0 first;", 2, 13);
        bad(none, 2, "on 0 clear 0;", 2, 11);
        bad(none, 2, "on 0 lips 0 0;", 2, 10);
        bad(none, 3, "bargain 0 by 0;", 2, 8);
        TwisterCourt x = three();
        good(x, 1, "on 0 bargain 1 first;", 1);
        bad(x, 1, "on 0 bargain 2 first;", 2, 13);
        good(x, 2, "on 0 clear 1;", 1);
        bad(x, 2, "on 0 clear 2;", 2, 11);
        good(x, 2, "on 0 lips 2 0;", 1);
        bad(x, 2, "on 0 lips 3 0;", 2, 10);
        good(x, 3, "bargain 1 by 0;", 1);
        bad(x, 3, "bargain 2 by 0;", 2, 8);
        good(x, 3, "bargain 0 by 2;", 1);
        bad(x, 3, "bargain 0 by 3;", 2, 13);
        TwisterCourt all = full();
        good(all, 1, "on 0 bargain 13 second;", 1);
        bad(all, 1, "on 0 bargain 14 second;", 2, 13);
        good(all, 2, "on 0 clear 13;on 0 lips 11 0;", 2);
        bad(all, 2, "on 0 clear 14;", 2, 11);
        bad(all, 2, "on 0 lips 12 0;", 2, 10);
        good(all, 3, "bargain 13 by 11;", 1);
        bad(all, 3, "bargain 14 by 11;", 2, 8);
        bad(all, 3, "bargain 13 by 12;", 2, 14);
        sentence("2: one that there is now");
        due("a third bargain", x.bargain(0, 2, 1), 2);
        good(x, 1, "on 0 bargain 2 first;", 1);
        due("a fourth person", x.person(1), 3);
        good(x, 3, "bargain 2 by 3;", 1);
    }

    private static void hears() {
        sentence("2: HEARS, who is neither of its two");
        TwisterCourt x = three();
        bad(x, 3, "bargain 0 by 0;", 2, 13);
        bad(x, 3, "bargain 0 by 1;", 2, 13);
        good(x, 3, "bargain 0 by 2;", 1);
        good(x, 3, "bargain 1 by 0;", 1);
        bad(x, 3, "bargain 1 by 1;", 2, 13);
        bad(x, 3, "bargain 1 by 2;", 2, 13);
        sentence("2: HEARS, told twice it is one");
        good(x, 3, "bargain 0 by 2;bargain 0 by 2;", 2);
        due("hears", x.deal(0, 8), 1);
        due("he hears", x.of(2, 4), 1);
        due("in the law", tell(x, 0, "rolls 100*hears;") + x.deal(0, 11), 101);
        sentence("2: HEARS, none and as many as can be");
        TwisterCourt y = full();
        StringBuilder all = new StringBuilder();
        for (int p = 2; p <= 11; p++) {
            all.append("bargain 13 by ").append(p).append(';');
        }
        good(y, 3, all.toString(), 10);
        due("ten hear", y.deal(13, 8), 10);
        due("none hears", y.deal(12, 8), 0);
        good(y, 3, "", 0);
        due("none hears now", y.deal(13, 8), 0);
    }

    private static void keywords() {
        sentence("2: TOKENS, letters (a .. z, A .. Z) as many as stand together");
        TwisterCourt x = three();
        for (char c : "azAZ".toCharArray()) {
            bad(x, 1, "on" + c + " 0 bargain 0 first;", 1, 0);
            bad(x, 1, "on 0" + c + "bargain 0 first;", 1, 4);
        }
        for (char c : "`{@[".toCharArray()) {
            bad(x, 1, "on" + c + " 0 bargain 0 first;", 1, 2);
        }
        good(x, 1, "on 0bargain 0first;", 1);
        bad(x, 1, "ON 0 bargain 0 first;", 1, 0);
        bad(x, 1, "o n 0 bargain 0 first;", 1, 0);
        bad(x, 1, "an 0 bargain 0 first;", 1, 0);
        bad(x, 1, "oN 0 bargain 0 first;", 1, 0);
        bad(x, 0, "tolls 1;", 1, 0);
        bad(x, 1, "on 0 bargai 0 first;", 1, 5);
        bad(x, 1, "on 0 bargains 0 first;", 1, 5);
        sentence("2: KEYWORDS, those told here for that text");
        bad(x, 1, "on 0 ale 0;", 1, 5);
        bad(x, 2, "on 0 bargain 0 first;", 1, 5);
        bad(x, 3, "on 0 bargain 0 first;", 1, 0);
        bad(x, 0, "on 0 ale 0;", 1, 0);
        bad(x, 0, "rolls bargain;", 1, 6);
        bad(x, 0, "rolls rolls;", 1, 6);
        bad(x, 0, "lips 1;", 1, 0);
        sentence("2: TOKENS, the signs of one");
        for (char c : ";+-*/()<=>".toCharArray()) {
            bad(x, 0, "rolls" + c, 1, 5);
        }
        good(x, 0, "rolls 1+1-1*1/1 when(1<2)and(2=2)and(3>2);", 1);
    }

    private static void numbers() {
        sentence("2: NUMBERS of 1 to 4 digits or none");
        TwisterCourt x = three();
        good(x, 0, "rolls 0;rolls 9;", 2);
        good(x, 0, "rolls 0000;rolls 9999;", 2);
        bad(x, 0, "rolls 00000;", 1, 6);
        bad(x, 0, "rolls 10000;", 1, 6);
        bad(x, 0, "rolls 9999999999999999;", 1, 6);
        bad(x, 0, "rolls 1 0;", 1, 8);
        bad(x, 0, "rolls /;", 1, 6);
        bad(x, 0, "rolls :;", 1, 6);
        bad(x, 0, "rolls 1:;", 1, 7);
        good(x, 0, "rolls 0999;", 1);
        due("0 ahead counts nothing", x.deal(0, 11), 999);
        good(x, 0, "rolls 0123456789".substring(0, 10) + "+4567*0;", 1);
        due("0123", x.deal(0, 11), 123);
    }

    private static void blanks() {
        sentence("2: Blanks (32, 10) between");
        TwisterCourt x = three();
        good(x, 0, " \n\n rolls\n 1 \n;\n ", 1);
        good(x, 0, "rolls 1;", 1);
        good(x, 0, "\n", 0);
        good(x, 0, " ", 0);
        for (int c : new int[] {0, 1, 9, 11, 12, 13, 31, 33, 127, 128, 160, 255}) {
            bad(x, 0, "rolls" + (char) c + "1;", 1, 5);
            bad(x, 0, "" + (char) c, 1, 0);
        }
        bad(x, 0, "ro lls 1;", 1, 0);
        bad(x, 0, "rolls 1 1;", 1, 8);
    }

    private static final String[][] TOKENS = {
        {"rolls", "lips", "*", "2", "/", "3", "+", "4", "-", "ale", "when", "not", "(", "day", "<", "5", "or", "hears",
            "=", "1", "and", "not", "held", ">", "2", ")", ";", "blurs", "1", ";", "costs", "phrase", ";"},
        {"on", "0", "bargain", "0", "first", ";", "on", "1", "bargain", "1", "second", ";"},
        {"on", "0", "ale", "1", ";", "on", "1", "noise", "2", ";", "on", "2", "clear", "1", ";", "on", "3", "lips", "2",
            "9", ";"},
        {"bargain", "0", "by", "2", ";", "bargain", "1", "by", "0", ";"},
    };

    private static void faultOneAtEachPlace() {
        for (int k = 0; k <= 3; k++) {
            sentence("2: FAULT 1, what can't stand there, text " + k);
            for (int at = 0; at <= TOKENS[k].length; at++) {
                StringBuilder text = new StringBuilder();
                int place = 0;
                for (int i = 0; i <= TOKENS[k].length; i++) {
                    place = i == at ? text.length() : place;
                    text.append(i == at ? "? " : "").append(i < TOKENS[k].length ? TOKENS[k][i] + " " : "");
                }
                bad(three(), k, text.toString(), 1, place);
            }
        }
    }

    private static void faultOneAtTheEnd() {
        for (int k = 0; k <= 3; k++) {
            sentence("2: FAULT 1, the end: the text's length, text " + k);
            int lines = 0;
            String text = "";
            for (String token : TOKENS[k]) {
                text += (text.isEmpty() ? "" : " ") + token;
                boolean isLine = token.equals(";");
                lines += bit(isLine);
                if (isLine) {
                    good(three(), k, text, lines);
                    good(three(), k, text + " \n", lines);
                } else {
                    bad(three(), k, text, 1, text.length());
                    bad(three(), k, text + " \n", 1, text.length() + 2);
                }
            }
        }
    }

    private static void faultTwo() {
        sentence("2: FAULT 2 (at the NUMBER) a part by 0");
        TwisterCourt x = three();
        bad(x, 0, "rolls 5/0;", 2, 8);
        bad(x, 0, "rolls 5/ \n 0000;", 2, 11);
        bad(x, 0, "rolls 5/2/0;", 2, 10);
        bad(x, 0, "rolls lips/0;", 2, 11);
        bad(x, 0, "rolls 1 when 5/0=1;", 2, 15);
        bad(x, 0, "rolls 1 when 1=5/0;", 2, 17);
        good(x, 0, "rolls 5/1;", 1);
        good(x, 0, "rolls 0/0001;", 1);
        bad(x, 0, "rolls 5/00000;", 1, 8);
        bad(x, 0, "rolls 5/-1;", 1, 8);
        bad(x, 0, "rolls 5/lips;", 1, 8);
        good(x, 0, "rolls 5*0;", 1);
        good(x, 0, "rolls 0/5;", 1);
    }

    private static void faultThreeOpened() {
        sentence("2: FAULT 3 (at it) the 9th ( or not that is open");
        TwisterCourt x = three();
        String when = "rolls 1 when ";
        for (int nots = 0; nots <= 9; nots++) {
            String open = "not ".repeat(nots) + "(".repeat(9 - nots);
            bad(x, 0, when + open + "1=1" + ")".repeat(9 - nots) + ";", 3, nots == 9 ? 13 + 32 : 13 + 3 * nots + 8);
        }
        for (int nots = 0; nots <= 8; nots++) {
            String open = "not ".repeat(nots) + "(".repeat(8 - nots);
            good(x, 0, when + open + "1=1" + ")".repeat(8 - nots) + ";", 1);
        }
        good(x, 0, when + "(".repeat(7) + "1=1" + ")".repeat(7) + ";", 1);
        sentence("2: FAULT 3, what is closed is open no more");
        good(x, 0, when + "((((((((1=1)or(1=1)and(1=1)and not 1=1)))))));", 1);
        good(x, 0, when + "(((((((not 1=1 and not 1=1)or not 1=1))))));", 1);
        bad(x, 0, when + "((((((((1=1)or((1=1))", 3, 13 + 15);
        bad(x, 0, when + "(((((((not not 1=1", 3, 13 + 11);
        good(x, 0, (when + "((((((((1=1))))))));").repeat(2), 2);
    }

    private static void faultsByPlace() {
        sentence("2: FAULTS, the first by its place");
        TwisterCourt x = three();
        bad(x, 0, "rolls 1/0 ?", 2, 8);
        bad(x, 0, "rolls ? 1/0;", 1, 6);
        bad(x, 1, "on 1000 bargain 9 third", 2, 3);
        bad(x, 1, "on 0 bargain 9 third", 2, 13);
        bad(x, 2, "on 0 lips 9 10", 2, 10);
        bad(x, 3, "bargain 0 by 1 by 2;", 2, 13);
        bad(x, 0, "costs 1;".repeat(16) + "costs 1/0;", 3, 128);
        bad(x, 0, "costs 1/0;" + "costs 1;".repeat(16), 2, 8);
        sentence("2: FAULTS, at one place the least");
        bad(x, 1, "on 10000 bargain 0 first;", 1, 3);
        bad(x, 0, "rolls 1/00000;", 1, 8);
        bad(x, 0, "costs 1;".repeat(16) + "cost", 1, 128);
        bad(x, 0, "rolls 1 when ((((((((1=(", 1, 23);
        bad(x, 0, "rolls 1 when ((((((((1=1 not", 1, 25);
        bad(x, 0, "rolls 1 when ((((((((1=1 (", 1, 25);
    }

    private static void rolls(String e, int want) {
        TwisterCourt x = three();
        due("told '" + e + "'", tell(x, 0, "rolls " + e + ";") > 0, true);
        due("rolls " + e, x.deal(0, 11), want);
    }

    private static void intsWrap() {
        sentence("2: Ints, which wrap");
        // 9268 * 5 is 46340, the square of which is 88047 below the greatest int
        String most = "9268*5*9268*5+9999*8+8055";
        rolls(most, 1000);
        rolls(most + "+1", 0);
        rolls("1 when " + most + ">0", 1);
        rolls("1 when " + most + "+1<0", 1);
        rolls("0-9268*5*9268*5-9999*8-8055-1", 0);
        rolls("0-9268*5*9268*5-9999*8-8055-2", 1000);
        rolls("8192*8192*31", 1000);
        rolls("8192*8192*32", 0);
        rolls("8192*8192*32-1", 1000);
        rolls("8192*8192*64", 0);
        rolls("8192*8192*64+7", 7);
        rolls("9999*9999*9999*9999", 1000);
        // 9999 to the fourth less 2327375 times 2 to the 32 is 1089432001
        rolls("9999*9999*9999*9999/9999/999", 109);
    }

    private static void quotientsTowardsNone() {
        sentence("2: / goes towards 0");
        rolls("7/2", 3);
        rolls("8/2", 4);
        rolls("1/2", 0);
        rolls("9999/9999", 1);
        rolls("9998/9999", 0);
        // a third of the least int is -715827882 and two thirds of 1
        String third = "8192*8192*32/3+9999*9999*7+9999*1596+";
        rolls(third + "9471", 0);
        rolls(third + "9472", 1);
        rolls(third + "9473", 2);
        rolls("1 when 8192*8192*32/9999*9999>8192*8192*32", 1);
        rolls("500-7/2", 497);
    }

    private static void heldToBounds() {
        sentence("2: rolls held to 0 .. 1000");
        rolls("0-1", 0);
        rolls("0", 0);
        rolls("1", 1);
        rolls("999", 999);
        rolls("1000", 1000);
        rolls("1001", 1000);
        rolls("9999", 1000);
        sentence("2: blurs, costs to 0 .. 9");
        String[] e = {"0-1", "0", "1", "8", "9", "10", "9999"};
        int[] want = {0, 0, 1, 8, 9, 9, 9};
        for (int i = 0; i < e.length; i++) {
            TwisterCourt x = three();
            tell(x, 0, "costs " + e[i] + ";blurs " + e[i] + ";");
            due("blurs " + e[i], x.deal(0, 7), want[i]);
            due("costs " + e[i] + ", the first", x.deal(0, 31), want[i]);
            due("costs " + e[i] + ", the second", x.deal(0, 42), want[i]);
        }
    }

    private static void firstLineThatIsSo() {
        sentence("2: E of the first line with that word whose B is so, or that has none");
        rolls("1;rolls 2", 1);
        rolls("1 when 1=2;rolls 2", 2);
        rolls("1 when 1=1;rolls 2", 1);
        rolls("1 when 1=2;rolls 2 when 2=2;rolls 3", 2);
        rolls("1 when 1=2;rolls 2 when 2=1", 900);
        rolls("1 when 1=2;costs 2;blurs 3", 900);
        sentence("2: < = > at both sides of alike");
        rolls("1 when 4<5", 1);
        rolls("1 when 5<5", 900);
        rolls("1 when 6<5", 900);
        rolls("1 when 4=5", 900);
        rolls("1 when 5=5", 1);
        rolls("1 when 6=5", 900);
        rolls("1 when 4>5", 900);
        rolls("1 when 5>5", 900);
        rolls("1 when 6>5", 1);
        sentence("2: not, and, or");
        rolls("1 when not 1=1", 900);
        rolls("1 when not 1=2", 1);
        rolls("1 when not 2=2", 900);
        rolls("1 when not 3<3", 1);
        String[] so = {"2=2", "1<2", "2>1", "not 1=2"};
        String[] notSo = {"2=1", "2<2", "2>2", "not 2=2"};
        for (int i = 0; i < 16; i++) {
            rolls("1 when " + so[i / 4] + " and " + so[i % 4], 1);
            rolls("1 when " + so[i / 4] + " and " + notSo[i % 4], 900);
            rolls("1 when " + notSo[i / 4] + " and " + so[i % 4], 900);
            rolls("1 when " + notSo[i / 4] + " and " + notSo[i % 4], 900);
            rolls("1 when " + so[i / 4] + " or " + so[i % 4], 1);
            rolls("1 when " + so[i / 4] + " or " + notSo[i % 4], 1);
            rolls("1 when " + notSo[i / 4] + " or " + so[i % 4], 1);
            rolls("1 when " + notSo[i / 4] + " or " + notSo[i % 4], 900);
        }
        rolls("1 when 1=1 or 1=1 and 1=2", 1);
        rolls("1 when (1=1 or 1=1) and 1=2", 900);
    }

    private static void withoutLaw() {
        sentence("2: none: rolls: 700 and 50 times lips less 30 times ale");
        int[][] lipsAleRolls = {{0, 0, 700}, {0, 9, 430}, {6, 0, 1000}, {7, 0, 1000}, {7, 1, 1000}, {7, 2, 990}, {9, 4, 1000},
            {9, 5, 1000}, {9, 6, 970}, {9, 9, 880}, {5, 0, 950}};
        for (int[] d : lipsAleRolls) {
            TwisterCourt x = three();
            x.set(0, 0, d[0]);
            x.set(2, 0, d[1]);
            due("lips " + d[0] + ", ale " + d[1], x.deal(0, 11), d[2]);
        }
        sentence("2: none: blurs: half of ale and half of noise, each by itself");
        int[][] aleNoiseBlurs = {{0, 0, 0}, {1, 1, 0}, {1, 2, 1}, {2, 1, 1}, {3, 3, 2}, {9, 0, 4}, {0, 9, 4}, {9, 9, 8}, {8, 8, 8}};
        for (int[] d : aleNoiseBlurs) {
            TwisterCourt x = three();
            x.set(2, 0, d[0]);
            x.set(3, 0, d[1]);
            due("ale " + d[0] + ", noise " + d[1], x.deal(0, 7), d[2]);
        }
        sentence("2: none: costs: phrase");
        TwisterCourt x = full();
        tell(x, 0, "");
        for (int q = 1; q <= 9; q++) {
            due("phrase " + q, 10 * x.deal(8, 30 + q) + x.deal(8, 40 + q), 11 * q);
        }
    }

    private static void namesOfTheLaw() {
        sentence("2: lips, owes, held: of who says it (blurs: 0); phrase: which, from 1 (blurs: 0)");
        TwisterCourt x = fluent();
        x.bargain(0, 2, 1);
        x.act(0, 2);
        x.act(1, 2);
        tell(x, 0, "rolls 0;costs 3;");
        x.act(0, 0);
        tell(x, 0, "rolls lips*100+owes*10+held;costs phrase;blurs 1 when lips+owes+held+phrase=0;blurs 2;");
        due("of the first", x.deal(0, 11), 431);
        due("of the second", x.deal(0, 21), 900);
        due("of nobody", x.deal(0, 7), 1);
        sentence("2: phrases, clear: the BARGAIN's; ale; noise; hears; day");
        x.set(1, 1, 5);
        x.set(2, 0, 6);
        x.set(3, 0, 7);
        tell(x, 3, "bargain 1 by 0;");
        tell(x, 0, "rolls phrases*100+clear*10+ale;costs noise+hears;blurs day+hears;");
        due("of bargain 1", x.deal(1, 21), 356);
        due("of bargain 0", x.deal(0, 21), 296);
        due("noise and hears", x.deal(1, 31), 8);
        due("noise and none", x.deal(0, 31), 7);
        due("day and hears", x.deal(1, 7), 1);
    }

    // ------------------------------------------------------------------------------------------------ 3

    private static void tavernOfADay() {
        sentence("3 (a): clear, of one that holds: nothing");
        TwisterCourt x = fluent();
        x.set(1, 0, 4);
        x.act(0, 0);
        x.act(1, 0);
        tell(x, 2, "on 0 clear 0;on 0 clear 1;");
        x.act(3, 1);
        x.days(1);
        due("it holds", x.deal(0, 6), 1);
        due("clear 4", x.deal(0, 3), 4);
        due("spoken by both", x.deal(0, 4) + x.deal(0, 5), 2);
        sentence("3 (a): clear, of one blurred: CLEAR 9, IS 0");
        due("open", x.deal(1, 6), 0);
        due("clear 9", x.deal(1, 3), 9);
        sentence("3 (a): clear (SPOKEN stays, if it was not blurred)");
        TwisterCourt y = fluent();
        y.act(0, 0);
        y.act(0, 1);
        y.act(3, 1);
        y.set(1, 0, 1);
        tell(y, 2, "on 0 clear 0;on 0 clear 1;");
        y.days(1);
        due("clear 9 and 9", y.deal(0, 3) + y.deal(1, 3), 18);
        due("it stays", y.deal(0, 4), 1);
        due("it does not", y.deal(1, 4), 0);
        sentence("3 (a): line by line, ahead of (b) and (c)");
        TwisterCourt z = three();
        tell(z, 0, "rolls 1000 when ale=2;rolls 0;blurs noise;");
        tell(z, 1, "on 0 bargain 0 first;");
        tell(z, 2, "on 0 ale 1;on 0 ale 2;on 0 noise 9;on 0 noise 1;");
        z.days(1);
        due("said", z.deal(0, 4), 1);
        due("clear 8", z.deal(0, 3), 8);
    }

    private static void twistsOfADay() {
        sentence("3 (b): a BARGAIN that IS 0, one who has not SPOKEN it");
        TwisterCourt x = fluent();
        x.bargain(0, 2, 1);
        x.act(0, 0);
        x.act(1, 0);
        x.act(3, 1);
        x.act(0, 2);
        int state = x.look(8);
        int lines = x.look(7);
        tell(x, 1, "on 0 bargain 0 first;on 0 bargain 0 second;on 0 bargain 1 first;on 0 bargain 2 first;");
        due("nothing comes to hold", x.days(1), 0);
        due("no draw", x.look(8), state);
        due("no line", x.look(7), lines);
        sentence("3 (b): line by line");
        TwisterCourt y = fluent();
        tell(y, 1, "on 0 bargain 0 second;on 0 bargain 0 second;on 0 bargain 0 first;on 0 bargain 0 first;");
        due("one comes to hold", y.days(1), 1);
        due("three lines", y.look(7), 3);
        due("four draws", y.look(8), drawn(drawn(drawn(drawn(0)))));
        sentence("3 (b): one who slips may say it on a later line, from 1 on");
        TwisterCourt z = three();
        tell(z, 0, "rolls 0 when owes=0 and phrase=2;rolls 1000;costs 1;");
        tell(z, 1, "on 0 bargain 0 first;on 0 bargain 0 first;");
        z.days(1);
        due("slipped on 2", z.book(0, 1) * 10 + z.book(0, 3), 12);
        due("then said", z.book(1, 1) * 10 + z.book(1, 3), 0);
        due("three draws", z.look(8), drawn(drawn(drawn(0))));
    }

    private static void rollsAndDraws() {
        sentence("3 (b): is it above 0, a DRAW of 1000");
        TwisterCourt x = three();
        tell(x, 0, "rolls 0;");
        x.act(0, 0);
        due("rolls 0: no draw", x.look(8), 0);
        due("he slips", x.book(0, 1), 1);
        tell(x, 0, "rolls 1;");
        x.act(0, 0);
        due("rolls 1: a draw", x.look(8), drawn(0));
        sentence("3 (b): below it that PHRASE rolls off; else he slips");
        int some = 0;
        while (draw(some, 1000) != 999) {
            some++;
        }
        TwisterCourt y = three();
        tell(y, 0, "rolls 999;");
        y.state(some);
        y.act(0, 0);
        due("999 is not below 999", y.book(0, 1), 1);
        tell(y, 0, "rolls 1000 when phrase=1;rolls 0;");
        y.state(some);
        y.act(0, 0);
        due("999 is below 1000", y.book(1, 3), 2);
        while (draw(some, 1000) != 0) {
            some++;
        }
        tell(y, 0, "rolls 1 when phrase=1;rolls 0;");
        y.state(some);
        y.act(0, 0);
        due("0 is below 1", y.book(2, 3), 2);
        sentence("3 (b): no more phrases behind a slip");
        due("one draw", y.look(8), drawn(some));
    }

    private static void costsOfASlip() {
        sentence("3 (b): costs is asked (phrase: that one; owes as ahead), OWES of him so much more");
        TwisterCourt x = three();
        tell(x, 0, "rolls 1000 when phrase<3;rolls 0;costs phrase+owes;");
        x.act(0, 1);
        due("3 and 0", x.of(1, 2), 3);
        x.act(0, 1);
        due("3 and 3 more", x.of(1, 2), 9);
        x.act(0, 1);
        due("9 more at most", x.of(1, 2), 18);
        due("nobody else", x.of(0, 2) + x.of(2, 2), 0);
        tell(x, 0, "rolls 0;costs 0-1;");
        x.act(0, 1);
        due("0 at least", x.of(1, 2), 18);
    }

    /** CLEAR and IS behind a DAY on which so much is blurred, as tens and ones. */
    private static int blurred(int clear, int blurs) {
        TwisterCourt x = three();
        tell(x, 0, "blurs " + blurs + ";");
        x.set(1, 0, clear);
        x.days(1);
        return 10 * x.deal(0, 3) + x.deal(0, 6);
    }

    private static void blursOfADay() {
        sentence("3 (c): CLEAR so much less (0 at least); is it 0 then: IS 2");
        due("9 less 0", blurred(9, 0), 90);
        due("1 less 0", blurred(1, 0), 10);
        due("9 less 8", blurred(9, 8), 10);
        due("9 less 9", blurred(9, 9), 2);
        due("5 less 4", blurred(5, 4), 10);
        due("5 less 5", blurred(5, 5), 2);
        due("5 less 6", blurred(5, 6), 2);
        due("1 less 9", blurred(1, 9), 2);
        sentence("3 (c): SPOKEN by none");
        TwisterCourt x = fluent();
        tell(x, 0, "rolls 1000;blurs 9;");
        x.act(1, 0);
        x.days(1);
        due("spoken no more", x.deal(0, 5), 0);
        due("by one it was", x.book(1, 3), 1);
        due("by none it was", x.book(2, 3), 0);
        sentence("3 (c): BARGAIN by BARGAIN that IS 0");
        int lines = x.look(7);
        x.days(1);
        due("those blurred are not blurred anew", x.look(7), lines);
        TwisterCourt y = fluent();
        y.act(0, 0);
        y.act(1, 0);
        tell(y, 0, "blurs 9;");
        y.days(1);
        due("one that holds stays", 10 * y.deal(0, 3) + y.deal(0, 6), 91);
        due("one line more", y.look(7), 4);
        sentence("3 (c): DAY is one more, behind it");
        TwisterCourt z = three();
        tell(z, 0, "blurs 9 when day=1;blurs 0;");
        z.days(1);
        due("not on 0", z.look(3), 0);
        z.days(1);
        due("on 1", z.look(3), 3);
        due("told of 1", z.book(0, 0), 1);
        sentence("3 (c): blurs has nobody and no PHRASE");
        TwisterCourt v = three();
        tell(v, 0, "rolls 0;costs 5;");
        v.act(0, 0);
        tell(v, 0, "blurs 4 when phrase=0 and lips=0 and owes=0;blurs 9;");
        v.days(1);
        due("clear 5", 10 * v.deal(0, 3) + v.deal(1, 3), 55);
        sentence("3 (c): clear as it is now, BARGAIN by BARGAIN");
        TwisterCourt w = three();
        tell(w, 0, "blurs clear-1;");
        w.set(1, 1, 3);
        w.days(1);
        due("1 and 1", 10 * w.deal(0, 3) + w.deal(1, 3), 11);
    }

    private static void byHand() {
        sentence("3: by hand, to CLEAR one that does not hold and whose CLEAR is below 9");
        for (int c = 1; c <= 9; c++) {
            TwisterCourt x = three();
            x.set(1, 0, c);
            due("with clear " + c, x.act(2, 0), c < 9);
            due("clear is 9", x.deal(0, 3), 9);
        }
        TwisterCourt x = fluent();
        x.act(0, 0);
        x.set(1, 0, 8);
        x.act(2, 0);
        due("what is spoken stays", x.deal(0, 4), 1);
        due("no line of it", x.look(7), 1);
        sentence("3: by hand, to BLUR one that IS 0 (CLEAR 0, IS 2, SPOKEN by none)");
        due("to blur", x.act(3, 0), true);
        due("clear, is, spoken", 100 * x.deal(0, 3) + 10 * x.deal(0, 6) + x.deal(0, 4) + x.deal(0, 5), 20);
        due("a line of it", 10 * x.book(1, 1) + x.book(1, 3), 31);
        due("to clear it then", x.act(2, 0), true);
        due("clear, is", 10 * x.deal(0, 3) + x.deal(0, 6), 90);
        sentence("3: by hand, to PAY (OWES one less, above 0)");
        tell(x, 0, "rolls 0;costs 2;");
        due("owes 0", x.act(4, 0), false);
        x.act(0, 0);
        due("owes 2", x.act(4, 0), true);
        due("owes 1", x.of(0, 2), 1);
        due("owes 1", x.act(4, 0), true);
        due("owes 0", x.act(4, 0), false);
        due("no line of it", x.look(7), 3);
        sentence("3: by hand, DAY stays");
        due("day", x.look(6), 0);
    }

    private static void bookIsFull() {
        sentence("3: THE BOOK (150 lines; no more then)");
        TwisterCourt x = three();
        tell(x, 0, "rolls 0;costs 1;");
        for (int i = 1; i <= 148; i++) {
            x.act(0, 0);
        }
        due("148", x.look(7), 148);
        tell(x, 0, "rolls 1000;");
        x.act(0, 0);
        due("149", x.look(7), 149);
        due("two lines at once, one of which has room", x.act(1, 0), true);
        due("150", x.look(7), 150);
        due("the last: said", 10 * x.book(149, 1) + x.book(149, 3), 1);
        due("no 151st", x.book(150, 1), NONE);
        due("it holds though", x.deal(0, 6), 1);
        due("held though", x.of(0, 1) + x.of(1, 1), 2);
        tell(x, 0, "rolls 0;costs 9;");
        int owed = x.of(1, 2);
        due("a slip without a line", x.act(0, 1), true);
        due("owes though", x.of(1, 2), owed + 9);
        due("150 still", x.look(7), 150);
        due("undone", x.undo(), true);
        due("150 still", x.look(7), 150);
        due("undone, with one of the two lines", x.undo(), true);
        due("149", x.look(7), 149);
        due("undone", x.undo(), true);
        due("148", x.look(7), 148);
    }

    private static void line(TwisterCourt x, int i, int day, int what, int which, int much) {
        due("day of line " + i, x.book(i, 0), day);
        due("what of line " + i, x.book(i, 1), what);
        due("which of line " + i, x.book(i, 2), which);
        due("how much of line " + i, x.book(i, 3), much);
    }

    private static void bookLines() {
        sentence("3: THE BOOK: DAY, what, which BARGAIN, how much");
        TwisterCourt x = full();
        tell(x, 0, "rolls 0 when phrases=9 and phrase=9;rolls 1000;blurs 9 when day=1 and phrases=8;blurs 0;");
        x.act(1, 8);
        x.days(1);
        x.act(0, 13);
        x.act(1, 13);
        x.act(0, 7);
        x.days(1);
        x.act(0, 12);
        x.act(3, 12);
        line(x, 0, 0, 1, 8, 9);
        line(x, 1, 1, 0, 13, 0);
        line(x, 2, 1, 0, 13, 1);
        line(x, 3, 1, 2, 13, 5);
        line(x, 4, 1, 0, 7, 0);
        line(x, 5, 1, 3, 7, 1);
        line(x, 6, 2, 0, 12, 0);
        line(x, 7, 2, 3, 12, 1);
        due("no more", x.look(7), 8);
    }

    // ------------------------------------------------------------------------------------------------ 4

    private static void thoughtRolls() {
        sentence("4: no DRAWS: a PHRASE rolls off, if rolls is 500 at least");
        int[] rolls = {0, 1, 499, 500, 501, 1000};
        for (int r : rolls) {
            TwisterCourt x = three();
            tell(x, 0, "rolls " + r + ";costs 1;blurs 0;");
            tell(x, 1, "on 0 bargain 0 first;on 0 bargain 0 second;");
            due("holds by rolls " + r, x.goes(1, 0), r >= 500 ? 1 : 0);
            due("owes by rolls " + r, x.goes(1, 1), r >= 500 ? 0 : 2);
            due("holds by rolls " + r, x.holds(0), r >= 500 ? 1 : NONE);
            due("no draw", x.look(8), 0);
            due("no line", x.look(7), 0);
            due("no day", x.look(6), 0);
            due("nothing to undo", x.look(13), 0);
        }
    }

    private static void thoughtDays() {
        sentence("4: GOES for n (1 .. 60) DAYS");
        TwisterCourt x = three();
        tell(x, 0, "blurs 1 when day=59;blurs 9 when day=60;blurs 0;");
        due("59 days", x.goes(59, 3), 18);
        due("60 days", x.goes(60, 3), 16);
        due("61 can't be", x.goes(61, 3), NONE);
        x.days(1);
        due("60 days from 1", x.goes(60, 2), 2);
        due("59 days from 1", x.goes(59, 2), 0);
        sentence("4: GOES, nothing of it stays");
        due("clear", x.deal(0, 3), 9);
        due("day", x.look(6), 1);
        sentence("4: GOES, what is owed and held already counts");
        TwisterCourt y = fluent();
        y.act(0, 0);
        y.act(1, 0);
        tell(y, 0, "rolls 0;costs 4;");
        y.act(0, 1);
        y.act(3, 1);
        due("holds", y.goes(1, 0), 1);
        due("owes", y.goes(1, 1), 4);
        due("blurred", y.goes(1, 2), 1);
        due("clear", y.goes(1, 3), 9);
    }

    private static void thoughtPersons() {
        sentence("4: GOES, by LIPS, OWES and HELD of who says it");
        TwisterCourt x = three();
        tell(x, 1, "on 0 bargain 0 first;on 0 bargain 0 second;on 0 bargain 1 second;on 0 bargain 1 first;");
        tell(x, 0, "rolls 500 when lips=4 or lips=9;rolls 0;costs lips+2;");
        due("0 and 1 say it", x.goes(1, 0), 1);
        due("2 slips", x.goes(1, 1), 2);
        tell(x, 0, "rolls 500 when lips=9;rolls 0;costs 1;");
        due("0 and 2 slip, 1 says both", x.goes(1, 1), 2);
        tell(x, 0, "rolls 500 when held=0;rolls 0;costs 7;");
        due("0 and 1 say it, then 2, then 1 has held", x.goes(1, 1), 7);
        tell(x, 0, "rolls 0;costs owes+1;");
        due("1 and 1 and 1, and 1 owes already", x.goes(1, 1), 5);
        sentence("4: GOES, by what TAVERN tells of LIPS, ALE, NOISE");
        tell(x, 2, "on 0 lips 2 5;on 0 ale 6;on 0 noise 7;");
        tell(x, 0, "rolls 500 when lips=5 and ale=6 and noise=7;rolls 0;costs 1;blurs 0;");
        due("2 alone", x.goes(1, 1), 3);
        due("lips stay", x.of(2, 0), 0);
        due("ale and noise stay", x.look(4) + x.look(5), 0);
    }

    private static TwisterCourt saidOn(int day) {
        TwisterCourt x = fluent();
        tell(x, 1, "on " + day + " bargain 1 first;on " + day + " bargain 1 second;");
        return x;
    }

    private static void holdsWithinSixty() {
        sentence("4: HOLDS, NONE: not within 60");
        due("behind 1", saidOn(0).holds(1), 1);
        due("behind 59", saidOn(58).holds(1), 59);
        due("behind 60", saidOn(59).holds(1), 60);
        due("behind 61", saidOn(60).holds(1), NONE);
        TwisterCourt x = saidOn(60);
        x.days(1);
        due("behind 60 by now", x.holds(1), 60);
        due("never", x.holds(0), NONE);
        sentence("4: HOLDS, 0: now");
        x.act(0, 1);
        due("said by one", x.holds(1), 60);
        x.act(1, 1);
        due("said by both", x.holds(1), 0);
        sentence("4: HOLDS, of one blurred, too, if it is cleared by then");
        TwisterCourt y = saidOn(5);
        y.act(3, 1);
        due("not cleared", y.holds(1), NONE);
        for (int day = 4; day <= 6; day++) {
            tell(y, 2, "on " + day + " clear 1;");
            due("cleared on " + day, y.holds(1), day <= 5 ? 6 : NONE);
        }
    }

    private static void sixAreKept() {
        sentence("4: UNDO, 6 are kept");
        for (int done = 0; done <= 13; done++) {
            TwisterCourt x = fluent();
            for (int i = 0; i < done; i++) {
                x.days(1);
            }
            int kept = Math.min(6, done);
            due("of " + done, x.look(13), kept);
            for (int i = 1; i <= kept; i++) {
                due("undo " + i + " of " + done, x.undo(), true);
                due("left", x.look(13), kept - i);
                due("day", x.look(6), done - i);
            }
            due("no more of " + done, x.undo(), false);
            due("day", x.look(6), done - kept);
        }
        sentence("4: UNDO, each DAY by itself");
        TwisterCourt x = fluent();
        x.days(5);
        due("5", x.look(13), 5);
        x.days(60);
        due("65", x.look(13), 6);
        x.undo();
        due("64", x.look(6), 64);
        x.undo();
        x.days(1);
        due("five are left", x.look(13), 5);
        due("64", x.look(6), 64);
        x.days(1);
        due("and six again", x.look(13), 6);
    }

    /** What UNDO brings back, of PERSONS 0 .. 2 and BARGAINS 0 and 1. */
    private static String allOf(TwisterCourt x) {
        StringBuilder all = new StringBuilder();
        for (int what = 0; what <= 8; what++) {
            all.append(x.look(what)).append(' ');
        }
        for (int p = 0; p <= 2; p++) {
            for (int what = 0; what <= 2; what++) {
                all.append(x.of(p, what)).append(' ');
            }
        }
        for (int b = 0; b <= 1; b++) {
            for (int what = 3; what <= 6; what++) {
                all.append(x.deal(b, what)).append(' ');
            }
        }
        return all.toString();
    }

    private static void undoOfEach() {
        sentence("4: UNDO, the latest DAY, TWIST, CLEARING, BLURRING, PAYING by hand goes back (STATE, THE BOOK, too)");
        TwisterCourt x = fluent();
        x.state(4711);
        x.set(1, 1, 3);
        String[] was = new String[6];
        was[0] = allOf(x);
        x.act(0, 0);
        was[1] = allOf(x);
        tell(x, 0, "rolls 1;costs 3;");
        x.act(1, 0);
        tell(x, 0, "rolls 1000;");
        was[2] = allOf(x);
        x.act(2, 1);
        was[3] = allOf(x);
        x.act(3, 1);
        was[4] = allOf(x);
        due("the second owes", x.act(4, 1), true);
        was[5] = allOf(x);
        x.days(1);
        for (int i = 5; i >= 0; i--) {
            due("six are kept", x.look(13), i + 1);
            due("undo", x.undo(), true);
            due("all, " + i + " undone", allOf(x), was[i]);
        }
        due("nothing more", x.undo(), false);
        sentence("4: UNDO, what TAVERN told on that DAY goes back");
        TwisterCourt y = fluent();
        tell(y, 2, "on 0 ale 5;on 0 noise 6;on 0 lips 2 7;on 0 clear 1;");
        y.act(3, 1);
        String before = allOf(y);
        y.days(1);
        due("all that", y.look(4) * 1000 + y.look(5) * 100 + y.of(2, 0) * 10 + y.deal(1, 6), 5670);
        y.undo();
        due("all", allOf(y), before);
    }

    /** A call that is told between two things done, and what can be undone behind it. */
    private interface Told {
        void by(TwisterCourt x);
    }

    private static void left(String what, int want, Told told) {
        TwisterCourt x = fluent();
        x.image(true);
        x.days(2);
        x.act(0, 0);
        told.by(x);
        due("left behind " + what, x.look(13), want);
        due("undo behind " + what, x.undo(), want > 0);
    }

    private static void forgets() {
        sentence("4: UNDO, whatever else is told forgets them");
        left("state", 0, x -> x.state(x.look(8)));
        left("person", 0, x -> x.person(0));
        left("bargain", 0, x -> x.bargain(0, 1, 1));
        left("lips", 0, x -> x.set(0, 0, 4));
        left("clear", 0, x -> x.set(1, 0, 9));
        left("ale", 0, x -> x.set(2, 0, 0));
        left("noise", 0, x -> x.set(3, 0, 0));
        left("twists", 0, x -> tell(x, 1, "on 0 bargain 0 first;"));
        left("no twists", 0, x -> tell(x, 1, ""));
        left("tavern", 0, x -> tell(x, 2, "on 0 ale 0;"));
        left("no tavern", 0, x -> tell(x, 2, ""));
        left("the image gone back to", 0, x -> x.image(false));
    }

    private static void forgetsNot() {
        sentence("4: UNDO, but THE LAW, HEARS and what is told for thought");
        left("the law", 3, x -> tell(x, 0, "rolls 1;"));
        left("no law", 3, x -> tell(x, 0, ""));
        left("hears", 3, x -> tell(x, 3, "bargain 0 by 2;"));
        left("no hears", 3, x -> tell(x, 3, ""));
        left("jump", 3, x -> x.jump(1));
        left("no jump", 3, x -> x.jump(NONE));
        left("turn", 3, x -> x.turn(1));
        left("no turn", 3, x -> x.turn(NONE));
        left("nine", 3, x -> x.nine(0, 1));
        left("step", 3, x -> x.rule(0, 1));
        left("no step", 3, x -> x.rule(0, NONE));
        left("bar", 3, x -> x.rule(1, 1));
        left("no bar", 3, x -> x.rule(1, NONE));
        sentence("4: UNDO, feed(), end(), what is refused, a text with a FAULT, the taking of THE IMAGE do not");
        left("feed", 3, x -> x.feed(0, 0, 0, 0, 0));
        left("end", 3, x -> x.end(0));
        left("person 10", 3, x -> x.person(10));
        left("bargain alike", 3, x -> x.bargain(0, 0, 1));
        left("lips 10", 3, x -> x.set(0, 0, 10));
        left("clear 0", 3, x -> x.set(1, 0, 0));
        left("ale 10", 3, x -> x.set(2, 0, 10));
        left("noise -1", 3, x -> x.set(3, 0, -1));
        left("set 4", 3, x -> x.set(4, 0, 0));
        left("said already", 3, x -> x.act(0, 0));
        left("clear already", 3, x -> x.act(2, 1));
        left("nothing owed", 3, x -> x.act(4, 0));
        left("days(0)", 3, x -> x.days(0));
        left("days(61)", 3, x -> x.days(61));
        left("a law with a fault", 3, x -> tell(x, 0, "?"));
        left("twists with a fault", 3, x -> tell(x, 1, "?"));
        left("tavern with a fault", 3, x -> tell(x, 2, "?"));
        left("hears with a fault", 3, x -> tell(x, 3, "?"));
        left("text 4", 3, x -> x.text(4));
        left("text -1", 3, x -> x.text(-1));
        left("the taking of the image", 3, x -> x.image(true));
        sentence("4: UNDO, what is asked forgets nothing");
        left("goes", 3, x -> x.goes(60, 0));
        left("holds", 3, x -> x.holds(0));
        left("deal", 3, x -> x.deal(0, 7));
        sentence("4: UNDO, the image that is not there");
        TwisterCourt x = fluent();
        x.days(2);
        x.image(false);
        due("left", x.look(13), 2);
    }

    private static void imageMoreThanOnce() {
        sentence("4: THE IMAGE, gone back to it may be more than once");
        TwisterCourt x = fluent();
        due("none", x.image(false), false);
        x.act(0, 0);
        x.days(1);
        String was = allOf(x);
        due("taken", x.image(true), true);
        for (int times = 1; times <= 3; times++) {
            x.days(2);
            x.act(1, 0);
            x.person(1);
            x.bargain(2, 0, 1);
            x.act(3, 1);
            due("gone back, " + times, x.image(false), true);
            due("all, " + times, allOf(x), was);
        }
        due("gone back at once", x.image(false), true);
        due("all", allOf(x), was);
        sentence("4: THE IMAGE, taken anew");
        x.days(3);
        due("taken", x.image(true), true);
        x.days(1);
        due("gone back", x.image(false), true);
        due("day 4", x.look(6), 4);
        due("gone back", x.image(false), true);
        due("day 4", x.look(6), 4);
    }

    private static void imageButFor() {
        sentence("4: THE IMAGE, all that was told");
        TwisterCourt x = fluent();
        tell(x, 1, "on 9 bargain 0 first;");
        tell(x, 2, "on 9 ale 1;");
        tell(x, 3, "bargain 0 by 2;");
        x.jump(4);
        x.turn(0);
        x.nine(0, 3);
        x.rule(0, 2);
        x.rule(1, 0);
        x.image(true);
        tell(x, 0, "rolls 1;rolls 2;");
        tell(x, 1, "on 0 bargain 1 second;");
        tell(x, 2, "on 0 clear 1;");
        tell(x, 3, "bargain 1 by 0;");
        x.jump(NONE);
        x.jump(0);
        x.turn(NONE);
        x.turn(1);
        x.nine(0, 0);
        x.rule(0, NONE);
        x.rule(0, 3);
        x.rule(1, NONE);
        x.rule(1, 1);
        x.image(false);
        for (int k = 0; k <= 3; k++) {
            due("text " + k, x.look(9 + k), 1);
        }
        due("jumps", x.jump(1), 2);
        due("by one jump", x.jumps(0), 1);
        due("turns", x.turning(0), 1);
        due("even", x.even(3), 3);
        due("steps", x.rule(0, 2), NONE);
        due("another step", x.rule(0, 3), 2);
        due("bars", x.rule(1, 0), NONE);
        due("another bar", x.rule(1, 1), 2);
        due("the law works", x.deal(1, 21), 1000);
        due("hears works", x.deal(0, 8) - x.deal(1, 8), 1);
        x.days(10);
        due("tavern works", x.look(4), 1);
        due("twists work", 10 * x.book(0, 0) + x.book(0, 2), 90);
        sentence("4: THE IMAGE, but the TAPE, fault() and what can be undone (nothing then)");
        x.feed(0x20202020, 0x20202020, 0x20202020, 0x20202020, 0x20202020);
        x.image(true);
        due("the tape", x.end(20) && !x.end(21), true);
        x.feed(0, 0, 0, 0, 0);
        x.days(1);
        x.image(false);
        due("the tape is as it was last", x.end(40), true);
        bad(x, 0, "?", 1, 0);
        x.days(1);
        x.image(true);
        due("what can be undone stays when it is taken", x.look(13), 1);
        bad(x, 1, "on 1000", 2, 3);
        x.image(false);
        due("the latest fault", 10 * x.fault(0) + x.fault(1), 23);
        due("nothing then", x.look(13), 0);
        due("nothing then", x.undo(), false);
        x.days(1);
        due("one by now", x.undo(), true);
    }
}
