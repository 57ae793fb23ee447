/**
 * Promises 1 to 37: each "NONE if ..", "false if ..", "or another what", "or there are ..", at its boundary and at one
 * beyond it on either side. What a refused call leaves as it was stands in RefusedTest, the Terms in EdgesOfTermsTest.
 */
public final class EdgesOfPromisesTest extends Checks {
    public static void main(String[] args) {
        aNewObject();
        state();
        person();
        bargain();
        setWhat();
        setBounds();
        actWhat();
        actCantBe();
        days();
        feed();
        end();
        text();
        fault();
        of();
        deal();
        dealPhrases();
        book();
        goes();
        holds();
        deals();
        jump();
        jumps();
        walks();
        apart();
        corners();
        parts();
        lasts();
        turn();
        turning();
        ant();
        row();
        own();
        round();
        nine();
        even();
        rule();
        game();
        undo();
        image();
        look();
        finish("every edge of the promises holds");
    }

    // ------------------------------------------------------------------------------------------------ what is told

    private static void aNewObject() {
        sentence("1: an empty tavern");
        TwisterCourt x = new TwisterCourt();
        edges("look", 0, 0, 13, 0, -100000, x::look);
        due("nobody", x.of(0, 0), NONE);
        due("no bargain", x.deal(0, 0), NONE);
        due("no line", x.book(0, 0), NONE);
        due("nothing on the tape", x.end(1), false);
        due("an empty tape", x.text(0), 0);
        due("a day goes by", x.days(1), 0);
    }

    private static void state() {
        sentence("2 state: what it was");
        TwisterCourt x = new TwisterCourt();
        int[] told = {0, 1, -1, MAX, MIN, 0};
        int was = 0;
        for (int v : told) {
            due("state(" + v + ")", x.state(v), was);
            due("look(8)", x.look(8), v);
            was = v;
        }
    }

    private static void person() {
        sentence("3 person: NONE if one can't be");
        edges("lips", 0, 0, 9, 0, NONE, v -> new TwisterCourt().person(v));
        sentence("3 person: or there are twelve");
        TwisterCourt x = new TwisterCourt();
        for (int i = 0; i < 11; i++) {
            x.person(9);
        }
        due("the twelfth", x.person(9), 11);
        due("the thirteenth", x.person(9), NONE);
        due("twelve", x.look(0), 12);
    }

    private static void bargain() {
        sentence("4 bargain: NONE if one can't be");
        edges("first", 0, 2, 1, 2, NONE, v -> three().bargain(v, 2, 1));
        edges("second", 1, 2, 2, 2, NONE, v -> three().bargain(0, v, 1));
        edges("phrases", 1, 2, 9, 2, NONE, v -> three().bargain(0, 1, v));
        due("nobody is there", new TwisterCourt().bargain(0, 1, 1), NONE);
        sentence("4 bargain: alike");
        for (int i = 0; i <= 2; i++) {
            due("of " + i + " alone", three().bargain(i, i, 1), NONE);
        }
        due("beyond and alike", three().bargain(3, 3, 1), NONE);
        due("below and alike", three().bargain(-1, -1, 1), NONE);
        sentence("4 bargain: or there are fourteen");
        TwisterCourt x = three();
        for (int i = 2; i < 13; i++) {
            x.bargain(1, 0, 9);
        }
        due("the fourteenth", x.bargain(0, 2, 9), 13);
        due("the fifteenth", x.bargain(0, 2, 9), NONE);
        due("fourteen", x.look(1), 14);
    }

    private static void setWhat() {
        sentence("5 set: or another what");
        edges("what", 0, 1, 3, 1, 0, what -> bit(three().set(what, 0, 5)));
        sentence("5 set: who not asked");
        for (int who : new int[] {MIN, -1, 0, 12, MAX}) {
            TwisterCourt x = new TwisterCourt();
            due("ale, who " + who, x.set(2, who, 4), true);
            due("noise, who " + who, x.set(3, who, 6), true);
            due("both", 10 * x.look(4) + x.look(5), 46);
        }
    }

    private static void setBounds() {
        sentence("5 set: false if one can't be, LIPS");
        edges("who", 0, 1, 2, 1, 0, who -> bit(three().set(0, who, 5)));
        edges("lips", 0, 1, 9, 1, 0, v -> bit(three().set(0, 2, v)));
        sentence("5 set: false if one can't be, CLEAR");
        edges("who", 0, 1, 1, 1, 0, who -> bit(three().set(1, who, 5)));
        edges("clear", 1, 1, 9, 1, 0, v -> bit(three().set(1, 1, v)));
        sentence("5 set: CLEAR of a BARGAIN that IS 0");
        TwisterCourt x = fluent();
        x.act(0, 0);
        due("said by one it is open", x.set(1, 0, 5), true);
        x.act(1, 0);
        due("one that holds", x.set(1, 0, 6), false);
        x.act(3, 1);
        due("one blurred", x.set(1, 1, 6), false);
        due("clear of both", 10 * x.deal(0, 3) + x.deal(1, 3), 50);
        x.act(2, 1);
        due("one cleared", x.set(1, 1, 6), true);
        sentence("5 set: false if one can't be, ALE and NOISE");
        edges("ale", 0, 1, 9, 1, 0, v -> bit(three().set(2, 0, v)));
        edges("noise", 0, 1, 9, 1, 0, v -> bit(three().set(3, 0, v)));
    }

    /** Where each of act's five can be: BARGAINS 0 and 1 are open and less clear, PERSONS 0 and 2 owe. */
    private static TwisterCourt ready() {
        TwisterCourt x = three();
        x.set(1, 0, 5);
        x.set(1, 1, 5);
        tell(x, 0, "rolls 0;costs 2;");
        x.act(0, 0);
        x.act(1, 1);
        return x;
    }

    private static void actWhat() {
        sentence("6 act: or another what");
        edges("what", 0, 1, 4, 1, 0, what -> bit(ready().act(what, 0)));
        sentence("6 act: 0, 1: true if he slips, too");
        for (int side = 0; side <= 1; side++) {
            TwisterCourt x = ready();
            due("slips", x.act(side, 1), true);
            due("not spoken", x.deal(1, 4 + side), 0);
        }
        sentence("6 act: false if it can't be, no such one");
        for (int what = 0; what <= 3; what++) {
            int it = what;
            edges("what " + what + ", bargain", 0, 1, 1, 1, 0, which -> bit(ready().act(it, which)));
        }
        edges("what 4, person", 0, 1, 0, 1, 0, which -> bit(ready().act(4, which)));
        edges("what 4, person", 2, 1, 2, 1, 0, which -> bit(ready().act(4, which)));
    }

    private static void actCantBe() {
        sentence("6 act: false if it can't be, by what it is");
        TwisterCourt x = fluent();
        due("the first", x.act(0, 0), true);
        due("the first again", x.act(0, 0), false);
        due("to clear with clear 9", x.act(2, 0), false);
        x.set(1, 0, 8);
        due("to clear with clear 8", x.act(2, 0), true);
        x.set(1, 0, 8);
        due("the second", x.act(1, 0), true);
        due("the first, of one that holds", x.act(0, 0), false);
        due("the second, of one that holds", x.act(1, 0), false);
        due("to clear one that holds", x.act(2, 0), false);
        due("to blur one that holds", x.act(3, 0), false);
        due("to blur", x.act(3, 1), true);
        due("the first, of one blurred", x.act(0, 1), false);
        due("the second, of one blurred", x.act(1, 1), false);
        due("to blur one blurred", x.act(3, 1), false);
        due("to clear one blurred", x.act(2, 1), true);
        sentence("6 act: PAY, above 0");
        tell(x, 0, "rolls 0;costs 1;");
        due("owes 0", x.act(4, 1), false);
        x.act(0, 1);
        due("owes 1", x.act(4, 1), true);
        due("owes 0 again", x.act(4, 1), false);
        due("never below", x.of(1, 2), 0);
    }

    private static void days() {
        sentence("7 days: NONE if one can't be");
        edges("n", 1, 0, 60, 0, NONE, n -> three().days(n));
        sentence("7 days: or DAY would be above 9999");
        TwisterCourt x = onDay(9938);
        due("9938 and 60", x.days(60), 0);
        due("9998 and 2", x.days(2), NONE);
        due("9998", x.look(6), 9998);
        due("9998 and 1", x.days(1), 0);
        due("9999 and 1", x.days(1), NONE);
        due("9999 and 60", x.days(60), NONE);
        due("9999", x.look(6), 9999);
        TwisterCourt y = onDay(9939);
        due("9939 and 60", y.days(60), 0);
        due("9999", y.look(6), 9999);
        TwisterCourt z = onDay(9940);
        due("9940 and 60", z.days(60), NONE);
        due("9940", z.look(6), 9940);
        due("9940 and 59", z.days(59), 0);
        sentence("7 days: how many BARGAINS came to hold");
        TwisterCourt held = fluent();
        tell(held, 1, "on 0 bargain 0 first;on 1 bargain 0 second;on 1 bargain 1 second;on 1 bargain 1 first;");
        due("none on the first", held.days(1), 0);
        due("two on the second", held.days(1), 2);
        due("none anew", held.days(1), 0);
    }

    private static void feed() {
        sentence("8 feed: NONE, and nothing comes, if there would be more than 400");
        TwisterCourt x = new TwisterCourt();
        for (int i = 1; i <= 19; i++) {
            due("feed", x.feed(MIN, -1, 0, 1, MAX), 20 * i);
        }
        due("399 and not 400", x.end(379) && x.feed(0, 0, 0, 0, 0) == 399, true);
        due("419 can't be", x.feed(0, 0, 0, 0, 0), NONE);
        due("to 400", x.end(380) && x.feed(0, 0, 0, 0, 0) == 400, true);
        due("420 can't be", x.feed(0, 0, 0, 0, 0), NONE);
        due("401 can't be", x.end(381) && x.feed(0, 0, 0, 0, 0) == NONE, true);
        due("nothing came", x.end(382), false);
        sentence("8 feed: of each number the highest first");
        TwisterCourt y = three();
        // "rolls 1" and "2;", then twelve blanks
        due("feed", y.feed(0x726f6c6c, 0x73203132, 0x3b202020, 0x20202020, 0x20202020), 20);
        due("told", y.text(0), 1);
        due("rolls 12", y.deal(0, 11), 12);
        sentence("8 feed: 400 bytes are a text");
        TwisterCourt z = three();
        String long400 = "rolls 7 when 1=1" + " ".repeat(383) + ";";
        good(z, 0, long400, 1);
        bad(z, 0, " ".repeat(399) + "r", 1, 399);
        bad(z, 0, "rolls 7" + " ".repeat(393), 1, 400);
    }

    private static void end() {
        sentence("9 end: false, changing nothing, if it has not so many, or n is below 0");
        edges("of none, n", 0, 1, 0, 1, 0, n -> bit(new TwisterCourt().end(n)));
        edges("of 20, n", 0, 1, 20, 1, 0, n -> {
            TwisterCourt x = new TwisterCourt();
            x.feed(0, 0, 0, 0, 0);
            return bit(x.end(n));
        });
        TwisterCourt x = three();
        tape(x, "rolls 5;;");
        due("one more", x.end(10), false);
        due("below 0", x.end(-1), false);
        due("as many as it has", x.end(9), true);
        due("its first 8 alone", x.end(8), true);
        due("9 no more", x.end(9), false);
        due("told", x.text(0), 1);
        due("rolls", x.deal(0, 11), 5);
    }

    private static void text() {
        sentence("10 text: no such one (fault() tells 0)");
        edges("k", 0, 0, 3, 0, NONE, k -> new TwisterCourt().text(k));
        for (int k : new int[] {-1, 4, MIN, MAX}) {
            TwisterCourt x = three();
            bad(x, 0, "rolls", 1, 5);
            due("text " + k, tell(x, k, "?"), NONE);
            due("fault behind text " + k, x.fault(0), 0);
            due("place behind text " + k, x.fault(1), NONE);
            due("the tape is empty", x.end(1), false);
        }
        sentence("10 text: or a FAULT (it stays as it was)");
        String[] texts = {"rolls 7;rolls 8;", "on 0 bargain 0 first;on 0 bargain 1 first;", "on 0 ale 1;on 0 noise 1;",
            "bargain 0 by 2;bargain 1 by 0;"};
        for (int k = 0; k <= 3; k++) {
            TwisterCourt x = three();
            good(x, k, texts[k], 2);
            due("text " + k + " but for its end", tell(x, k, texts[k] + texts[k] + "?"), NONE);
            due("lines of text " + k, x.look(9 + k), 2);
            due("the tape is empty", x.end(1), false);
            good(x, k, "", 0);
            due("an empty one is told", x.look(9 + k), 0);
        }
    }

    private static void fault() {
        sentence("11 fault: NONE for another what");
        TwisterCourt x = three();
        bad(x, 1, "on 1000", 2, 3);
        edges("what", 0, 2, 1, 3, NONE, x::fault);
        sentence("11 fault: 0 without one, its place NONE");
        edges("of none told yet, what", 0, 0, 1, NONE, NONE, what -> new TwisterCourt().fault(what));
        good(x, 1, "", 0);
        edges("behind a good one, what", 0, 0, 1, NONE, NONE, x::fault);
        sentence("11 fault: of the latest text()");
        bad(x, 0, "?", 1, 0);
        bad(x, 1, "on 1000", 2, 3);
        bad(x, 0, "rolls 1/0", 2, 8);
    }

    // ------------------------------------------------------------------------------------------------ what is asked

    private static void of() {
        sentence("12 of: NONE if there is none such");
        edges("person", 0, 4, 2, 0, NONE, p -> three().of(p, 0));
        edges("person of twelve", 0, 0, 11, 1, NONE, p -> full().of(p, 0));
        sentence("12 of: or another what");
        TwisterCourt x = three();
        tell(x, 3, "bargain 1 by 0;");
        edges("what", 0, 4, 4, 2, NONE, what -> x.of(0, what));
        sentence("12 of: a set, of none and of all");
        TwisterCourt y = full();
        due("his, the first", y.of(0, 3), 16383);
        due("his, the second", y.of(1, 3), 16383);
        due("his, of neither", y.of(11, 3), 0);
        tell(y, 3, "bargain 0 by 11;bargain 13 by 11;");
        due("he hears", y.of(11, 4), 8193);
        due("he hears none", y.of(10, 4), 0);
    }

    private static void deal() {
        sentence("13 deal: NONE if there is none such");
        edges("bargain", 0, 2, 1, 3, NONE, b -> three().deal(b, 2));
        edges("bargain of fourteen", 0, 1, 13, 5, NONE, b -> full().deal(b, 2));
        edges("bargain, rolls", 0, 1000, 13, 1000, NONE, b -> full().deal(b, 11));
        sentence("13 deal: or another what");
        TwisterCourt x = three();
        tell(x, 3, "bargain 0 by 2;");
        edges("what", 0, 0, 8, 1, NONE, what -> x.deal(0, what));
        due("what 9", x.deal(0, 9), NONE);
        due("what 10", x.deal(0, 10), NONE);
        sentence("13 deal: SPOKEN by the first, by the second, IS");
        TwisterCourt y = fluent();
        due("none", 100 * y.deal(0, 4) + 10 * y.deal(0, 5) + y.deal(0, 6), 0);
        y.act(1, 0);
        due("the second", 100 * y.deal(0, 4) + 10 * y.deal(0, 5) + y.deal(0, 6), 10);
        y.act(0, 0);
        due("both, and it holds", 100 * y.deal(0, 4) + 10 * y.deal(0, 5) + y.deal(0, 6), 111);
        y.act(0, 1);
        due("the first", 100 * y.deal(1, 4) + 10 * y.deal(1, 5) + y.deal(1, 6), 100);
        y.act(3, 1);
        due("blurred", 100 * y.deal(1, 4) + 10 * y.deal(1, 5) + y.deal(1, 6), 2);
    }

    private static void dealPhrases() {
        sentence("13 deal: on PHRASE q (1 .. PHRASES)");
        TwisterCourt x = full();
        tell(x, 0, "rolls 100*phrase+lips;costs phrase;");
        int[] group = {0, 1, 0, 1};
        for (int phrases = 1; phrases <= 9; phrases++) {
            int b = phrases - 1;
            for (int g = 0; g < 4; g++) {
                int from = 10 * (g + 1);
                boolean isRolls = g < 2;
                due("q 0 of " + phrases, x.deal(b, from), NONE);
                due("q 1 of " + phrases, x.deal(b, from + 1), isRolls ? 100 + group[g] : 1);
                due("q " + phrases, x.deal(b, from + phrases), isRolls ? 100 * phrases + group[g] : phrases);
                due("one beyond " + phrases, x.deal(b, from + phrases + 1), NONE);
            }
        }
        due("what 50", x.deal(8, 50), NONE);
        due("what 51", x.deal(8, 51), NONE);
        due("what 59", x.deal(8, 59), NONE);
        TwisterCourt by = three();
        tell(by, 0, "rolls lips;costs lips-1;");
        due("rolls of the first, of the second", 10 * by.deal(0, 11) + by.deal(0, 22), 49);
        due("costs of the first, of the second", 10 * by.deal(0, 31) + by.deal(0, 42), 38);
        sentence("13 deal: whatever it IS");
        TwisterCourt y = fluent();
        y.act(0, 0);
        y.act(1, 0);
        y.act(3, 1);
        due("rolls of one that holds", y.deal(0, 22), 1000);
        due("costs of one that holds", y.deal(0, 42), 2);
        due("rolls of one blurred", y.deal(1, 13), 1000);
        due("costs of one blurred", y.deal(1, 33), 3);
    }

    private static void book() {
        sentence("14 book: NONE if there is none such");
        TwisterCourt x = fluent();
        edges("empty, line", 0, NONE, 0, NONE, NONE, i -> x.book(i, 1));
        x.act(0, 0);
        x.act(1, 0);
        edges("of three, line", 0, 0, 2, 2, NONE, i -> x.book(i, 1));
        x.undo();
        edges("of one, line", 0, 0, 0, 0, NONE, i -> x.book(i, 1));
        sentence("14 book: or another what");
        edges("what", 0, 0, 3, 0, NONE, what -> x.book(0, what));
    }

    private static void goes() {
        sentence("15 goes: NONE if one can't be");
        TwisterCourt x = three();
        tell(x, 0, "rolls 500;blurs 0;");
        tell(x, 1, "on 0 bargain 0 first;on 0 bargain 0 second;on 59 bargain 1 first;on 59 bargain 1 second;");
        edges("n", 1, 1, 60, 2, NONE, n -> x.goes(n, 0));
        due("59", x.goes(59, 0), 1);
        sentence("15 goes: or another what");
        edges("what", 0, 2, 3, 18, NONE, what -> x.goes(60, what));
        edges("n 0, what", 0, NONE, 3, NONE, NONE, what -> x.goes(0, what));
        sentence("15 goes: of nobody and nothing");
        edges("what", 0, 0, 3, 0, NONE, what -> new TwisterCourt().goes(60, what));
    }

    private static void holds() {
        sentence("16 holds: NONE, too, if there is none such");
        TwisterCourt x = fluent();
        for (int b = 0; b <= 1; b++) {
            x.act(0, b);
            x.act(1, b);
        }
        edges("bargain", 0, 0, 1, 0, NONE, x::holds);
        edges("of nothing", 0, NONE, 0, NONE, NONE, b -> new TwisterCourt().holds(b));
    }

    private static void deals() {
        sentence("17 deals: NONE if one can't be");
        edges("a", 0, 0, 1, 0, NONE, a -> three().deals(a, 2));
        edges("b", 1, 0, 2, 0, NONE, b -> three().deals(0, b));
        due("of nobody", new TwisterCourt().deals(0, 1), NONE);
        sentence("17 deals: alike");
        for (int p = -1; p <= 3; p++) {
            due(p + " and " + p, three().deals(p, p), NONE);
        }
        sentence("17 deals: none and all");
        TwisterCourt x = full();
        due("none", x.deals(0, 1), 0);
        for (int b = 0; b < 14; b++) {
            x.act(0, b);
            x.act(1, b);
        }
        due("all", x.deals(0, 1), 14);
        due("the other way round", x.deals(1, 0), 14);
        due("of neither", x.deals(2, 11), 0);
    }

    // ------------------------------------------------------------------------------------------------ in thought

    private static void jump() {
        sentence("18 jump: NONE if one can't be");
        for (int v : new int[] {MIN, -3, -2, 10, 11, MAX}) {
            due("jump(" + v + ")", new TwisterCourt().jump(v), NONE);
        }
        due("jump(0)", new TwisterCourt().jump(0), 1);
        due("jump(9)", new TwisterCourt().jump(9), 1);
        sentence("18 jump: or there are fourteen");
        TwisterCourt x = new TwisterCourt();
        for (int i = 1; i <= 13; i++) {
            due("jump", x.jump(9), i);
        }
        due("the fourteenth", x.jump(9), 14);
        due("the fifteenth", x.jump(9), NONE);
        due("two jumps", x.jumps(0), 2);
        sentence("18 jump: NONE: none is then");
        due("jump(NONE)", x.jump(NONE), 0);
        due("none", x.jumps(0), NONE);
        due("jump(NONE) of none", x.jump(NONE), 0);
        due("the first anew", x.jump(0), 1);
    }

    private static int jumped(String row, int what) {
        TwisterCourt x = new TwisterCourt();
        for (int i = 0; i < row.length(); i++) {
            x.jump(row.charAt(i) - '0');
        }
        return x.jumps(what);
    }

    private static void jumps() {
        sentence("19 jumps: NONE, too, for another what");
        edges("what", 0, 2, 1, 4, NONE, what -> jumped("23114", what));
        sentence("19 jumps: none: NONE; one place: 0");
        edges("of none, what", 0, NONE, 1, NONE, NONE, what -> jumped("", what));
        edges("of a 0, what", 0, 0, 1, 0, NONE, what -> jumped("0", what));
        edges("of a 9, what", 0, 0, 1, 0, NONE, what -> jumped("9", what));
        sentence("19 jumps: up to as far on as it says");
        due("just as far", jumped("3000", 0), 1);
        due("one short", jumped("2000", 0), NONE);
        due("further", jumped("4000", 0), 1);
        due("one short, and on from there", jumped("2010", 0), 2);
        sentence("19 jumps: NONE, not come to");
        due("a 0 at first", jumped("09", 0), NONE);
        due("a 0 ahead of the last", jumped("10", 0), 1);
        due("a 0 between", jumped("1011", 0), NONE);
        sentence("19 jumps: the furthest place that can be come to (the last one at most)");
        due("a 0 at first", jumped("09", 1), 0);
        due("a 0 between", jumped("1011", 1), 1);
        due("just the last", jumped("200", 1), 2);
        due("beyond the last", jumped("900", 1), 2);
        due("of fourteen", jumped("90000000009999", 1), 9);
        due("of fourteen, all", jumped("90000000049999", 1), 13);
    }

    private static void walks() {
        sentence("20 walks: NONE if one can't be");
        TwisterCourt x = new TwisterCourt();
        edges("all of n", 0, 1, 8, 5916, NONE, n -> x.walks(n, -100, 0));
        edges("straight on by n", 0, 1, 8, 1, NONE, n -> x.walks(n, n, 0));
        edges("x", -8, 1, 8, 1, NONE, at -> x.walks(8, at, 0));
        edges("y", -8, 1, 8, 1, NONE, at -> x.walks(8, 0, at));
        due("a corner, too far", x.walks(8, 8, 8), 0);
        due("a corner, too far", x.walks(8, -8, -8), 0);
        due("not gone", x.walks(0, 8, -8), 0);
        sentence("20 walks: all of them (x NONE - 99; y not asked)");
        for (int y : new int[] {MIN, -9, 0, 9, MAX}) {
            due("y " + y, x.walks(1, -100, y), 4);
        }
        due("x -99", x.walks(1, -99, 0), NONE);
        due("x -101", x.walks(1, -101, 0), NONE);
        due("x MIN", x.walks(1, MIN, 0), NONE);
        due("y -100", x.walks(1, 0, -100), NONE);
    }

    private static void apart() {
        sentence("21 apart: NONE, too, if d can't be");
        TwisterCourt x = new TwisterCourt();
        edges("x of d", 2, 3, 50, 99, NONE, d -> x.apart(d, 0));
        edges("y of d", 2, 2, 50, 14, NONE, d -> x.apart(d, 1));
        due("d 0", x.apart(0, 0), NONE);
        due("the greatest x", x.apart(46, 0), 24335);
        due("the greatest y", x.apart(46, 1), 3588);
        sentence("21 apart: or another what");
        edges("what", 0, 3, 1, 2, NONE, what -> x.apart(2, what));
        sentence("21 apart: NONE: d is a square");
        for (int r = 2; r <= 7; r++) {
            due("x of " + r * r, x.apart(r * r, 0), NONE);
            due("y of " + r * r, x.apart(r * r, 1), NONE);
            // r * r is 1 more than (r * r - 1) times 1; r * r - (r * r + 1) is -1, and what is apart so, by itself, 1
            due("one less", x.apart(r * r - 1, 0), r);
            due("one less", x.apart(r * r - 1, 1), 1);
            due("one more", x.apart(r * r + 1, 0), 2 * r * r + 1);
            due("one more", x.apart(r * r + 1, 1), 2 * r);
        }
    }

    private static void corners() {
        sentence("22 corners: NONE if n can't be");
        TwisterCourt x = new TwisterCourt();
        edges("longest of n", 1, 0, 200, 127, NONE, n -> x.corners(n, 0));
        edges("together n", 1, 0, 200, 1, NONE, n -> x.corners(n, 1));
        sentence("22 corners: or another what");
        edges("what", 0, 2, 1, 1, NONE, what -> x.corners(12, what));
        sentence("22 corners: a longest one of n at most");
        due("4", x.corners(4, 0), 0);
        due("5", x.corners(5, 0), 1);
        due("6", x.corners(6, 0), 1);
        due("199: without the two of 200", x.corners(199, 0), 125);
        sentence("22 corners: all sides together n");
        due("11", x.corners(11, 1), 0);
        due("12", x.corners(12, 1), 1);
        due("13", x.corners(13, 1), 0);
    }

    private static void parts() {
        sentence("23 parts: NONE if n can't be");
        TwisterCourt x = new TwisterCourt();
        // 999: 521, which is prime, 1, 0
        edges("times of n", 1, 1, 999, 3, NONE, n -> x.parts(n, 0));
        edges("end of n", 1, 0, 999, 0, NONE, n -> x.parts(n, 1));
        sentence("23 parts: or another what");
        edges("what", 0, 2, 1, 220, NONE, what -> x.parts(220, what));
        sentence("23 parts: it first is 0, or one that it was before (n, too)");
        due("2: 1, 0", x.parts(2, 0), 2);
        due("itself at once", 10 * x.parts(28, 0) + x.parts(28, 1), 38);
        due("not itself: 25, 6, 6", 10 * x.parts(25, 0) + x.parts(25, 1), 26);
        due("n by way of another", 1000 * x.parts(284, 0) + x.parts(284, 1), 2284);
        sentence("23 parts: or above 9999");
        // no n comes nearer to 9999 than 9990 and 10164
        due("9990 goes on", x.parts(798, 0), 11);
        due("9990 goes on", x.parts(798, 1), 17370);
        due("10164 does not", x.parts(396, 0), 10);
        due("10164 does not", x.parts(396, 1), 10164);
    }

    private static void lasts() {
        sentence("24 lasts: NONE if n can't be");
        TwisterCourt x = new TwisterCourt();
        int[] of999999 = {2, 9, 3, 0};
        for (int what = 0; what <= 3; what++) {
            int it = what;
            edges("what " + what + " of n", 0, 0, 999999, of999999[what], NONE, n -> x.lasts(n, it));
        }
        sentence("24 lasts: or another what");
        edges("what", 0, 2, 3, 8, NONE, what -> x.lasts(77, what));
        sentence("24 lasts: till it is one digit");
        due("9, added", x.lasts(9, 0), 0);
        due("10, added", x.lasts(10, 0), 1);
        due("9, multiplied", x.lasts(9, 2), 0);
        due("10, multiplied", x.lasts(10, 2), 1);
        due("9 is itself", 10 * x.lasts(9, 1) + x.lasts(9, 3), 99);
        due("10 is 1, and 0", 10 * x.lasts(10, 1) + x.lasts(10, 3), 10);
    }

    private static void turn() {
        sentence("25 turn: NONE if one can't be");
        for (int v : new int[] {MIN, -3, -2, 3, 4, MAX}) {
            due("turn(" + v + ")", new TwisterCourt().turn(v), NONE);
        }
        due("turn(0)", new TwisterCourt().turn(0), 1);
        due("turn(2)", new TwisterCourt().turn(2), 1);
        sentence("25 turn: or there are sixteen");
        TwisterCourt x = new TwisterCourt();
        for (int i = 1; i <= 15; i++) {
            due("turn", x.turn(0), i);
        }
        due("the sixteenth", x.turn(0), 16);
        due("the seventeenth", x.turn(0), NONE);
        due("x", x.turning(0), 16);
        due("squares", x.turning(2), 17);
        sentence("25 turn: NONE: none is then");
        due("turn(NONE)", x.turn(NONE), 0);
        due("x", x.turning(0), 0);
        due("turn(NONE) of none", x.turn(NONE), 0);
        due("the first anew", x.turn(1), 1);
    }

    private static int turned(String row, int what) {
        TwisterCourt x = new TwisterCourt();
        for (int i = 0; i < row.length(); i++) {
            x.turn(row.charAt(i) - '0');
        }
        return x.turning(what);
    }

    private static void turning() {
        sentence("26 turning: NONE - 9999 for another what");
        edges("what", 0, 0, 3, 2, -10000, what -> turned("01010101", what));
        edges("of none, what", 0, 0, 3, 0, -10000, what -> turned("", what));
        sentence("26 turning: else NONE - 999");
        due("one short", turned("010101", 3), -1000);
        due("there again", turned("0101010", 3), 2);
        due("one beyond", turned("01010100", 3), -1000);
        due("x there, y not", turned("10", 3), -1000);
        due("y there, x not", turned("0", 3), -1000);
        sentence("26 turning: below 0 if it goes round by the right");
        due("by the right", turned("0202020", 3), -2);
        due("by neither", turned("01100", 3), -1000);
        due("to and fro", turned("0110", 3), 0);
        due("a greater one", turned("0020020020020000", 3), -1000);
        due("a greater one", turned("00200200200", 3), -8);
        sentence("26 turning: how many unlike squares were stood on (the first, too)");
        due("of none", turned("", 2), 1);
        due("turned alone", turned("1212", 2), 1);
        due("to and fro", turned("0110110", 2), 2);
    }

    private static void ant() {
        sentence("27 ant: NONE if n can't be");
        TwisterCourt x = new TwisterCourt();
        edges("where behind n", 0, 27, 300, 15, NONE, n -> x.ant(n, 0));
        edges("black behind n", 0, 0, 300, 34, NONE, n -> x.ant(n, 1));
        sentence("27 ant: or another what");
        edges("what", 0, 26, 1, 3, NONE, what -> x.ant(5, what));
    }

    private static void row() {
        sentence("28 row: NONE if one can't be");
        TwisterCourt x = new TwisterCourt();
        edges("v", 0, 0, 65535, 65535, NONE, v -> x.row(v, 204 + 256, 0));
        // rule 0 no times leaves it, rule 255 makes all bits
        edges("rn", 0, 1, 7935, 65535, NONE, rn -> x.row(1, rn, 0));
        due("rule 255 no times", x.row(1, 255, 0), 1);
        due("rule 0 once", x.row(1, 256, 0), 0);
        due("rule 0 thirty times", x.row(1, 7680, 0), 0);
        due("rule 254 thirty times", x.row(1, 7934, 0), 65535);
        sentence("28 row: or another what");
        edges("what", 0, 3, 1, 2, NONE, what -> x.row(3, 0, what));
        sentence("28 row: round (of the highest: the lowest one's)");
        due("a of the highest", x.row(1, 256 + 16, 0), 32768);
        due("a of the one below", x.row(32768, 256 + 16, 0), 16384);
        due("c of the lowest", x.row(32768, 256 + 2, 0), 1);
        due("c of the one above", x.row(1, 256 + 2, 0), 2);
    }

    private static void own() {
        sentence("29 own: NONE, too, if n can't be");
        TwisterCourt x = new TwisterCourt();
        edges("times of n", 0, NONE, 9999, NONE, NONE, n -> x.own(n, 0));
        edges("greatest of n", 0, 0, 9999, 9999, NONE, n -> x.own(n, 1));
        sentence("29 own: or another what");
        edges("what", 0, 3, 1, 8352, NONE, what -> x.own(3524, what));
        sentence("29 own: n itself: 0; NONE: never");
        due("6174", x.own(6174, 0), 0);
        due("1467 by one", x.own(1467, 0), 1);
        for (int digit = 0; digit <= 9; digit++) {
            due("alike", x.own(1111 * digit, 0), NONE);
            due("greatest of alike", x.own(1111 * digit, 1), 1111 * digit);
        }
        sentence("29 own: as four digits (0 ahead, too)");
        // 1000 - 1 = 999, 9990 - 999 = 8991, 9981 - 1899 = 8082, 8820 - 288 = 8532, 8532 - 2358 = 6174
        due("1", x.own(1, 0), 5);
        due("1", x.own(1, 1), 8991);
        due("9998", x.own(9998, 0), 5);
        due("9998", x.own(9998, 1), 9998);
    }

    private static void round() {
        sentence("30 round: NONE, too, if one can't be");
        TwisterCourt x = new TwisterCourt();
        edges("w", 2, 1, 8, 1, NONE, w -> x.round(w, 1, 1, 0));
        for (int w = 2; w <= 8; w++) {
            int bits = w;
            int all = (1 << w) - 1;
            // by all taps the highest bit comes if there is an odd number of bits
            int next = all >> 1 | (w % 2 == 1 ? 1 << w - 1 : 0);
            edges("t of " + w + " bits", 1, all, all, next, NONE, t -> x.round(bits, t, all, 1));
            edges("v of " + w + " bits", 1, 1, all, all, NONE, v -> x.round(bits, 1, v, 0));
        }
        sentence("30 round: what it is behind n (0 .. 1000)");
        due("n 0", x.round(8, 1, 2, 0), 2);
        due("n 1", x.round(8, 1, 2, 1), 1);
        due("n 999", x.round(8, 1, 2, 999), 4);
        due("n 1000", x.round(8, 1, 2, 1000), 2);
        due("n 1001", x.round(8, 1, 2, 1001), NONE);
        due("n MAX", x.round(8, 1, 2, MAX), NONE);
        due("n -2", x.round(8, 1, 2, -2), NONE);
        due("n MIN", x.round(8, 1, 2, MIN), NONE);
        sentence("30 round: behind how many, 1 at least, it is v again (n NONE)");
        due("at once, all bits", x.round(8, 1, 255, NONE), 1);
        due("two bits", x.round(2, 1, 1, NONE), 2);
        due("the longest of eight", x.round(8, 29, 1, NONE), 255);
        sentence("30 round: NONE: never");
        due("it goes to 0", x.round(8, 128, 1, NONE), NONE);
        due("0 behind one", x.round(8, 128, 1, 1), 0);
        due("5, 6, 7, and 7 stays", x.round(3, 4, 5, NONE), NONE);
    }

    private static void nine() {
        sentence("31 nine: false if one can't be");
        edges("place", 0, 1, 8, 1, 0, place -> bit(new TwisterCourt().nine(place, 1)));
        edges("v", 0, 1, 30, 1, 0, v -> bit(new TwisterCourt().nine(4, v)));
        sentence("31 nine: place 0 .. 8, row by row");
        int[] lines = {3, 2, 3, 2, 4, 2, 3, 2, 3};
        for (int place = 0; place <= 8; place++) {
            TwisterCourt x = new TwisterCourt();
            x.nine(place, 30);
            due("lines through " + place, x.even(30), lines[place]);
            due("lines beside " + place, x.even(0), 8 - lines[place]);
        }
    }

    private static int ways(String numbers) {
        TwisterCourt x = new TwisterCourt();
        String[] n = numbers.split(",");
        for (int place = 0; place <= 8; place++) {
            x.nine(place, Integer.parseInt(n[place]));
        }
        return x.even(NONE);
    }

    private static void even() {
        sentence("32 even: NONE if s can't be");
        TwisterCourt x = new TwisterCourt();
        for (int place = 0; place <= 8; place++) {
            x.nine(place, 30);
        }
        due("90", x.even(90), 8);
        due("89", x.even(89), 0);
        due("91", x.even(91), NONE);
        due("0", x.even(0), 0);
        due("-2", x.even(-2), NONE);
        due("MIN", x.even(MIN), NONE);
        due("MAX", x.even(MAX), NONE);
        due("0 of a new one", new TwisterCourt().even(0), 8);
        sentence("32 even: in how many ways (s NONE), 0 .. 30, unlike what it is");
        due("all even already", x.even(NONE), 0);
        x.nine(0, 0);
        due("back to 30", x.even(NONE), 1);
        x.nine(0, 30);
        x.nine(8, 29);
        due("back to 30 at the last place", x.even(NONE), 1);
        TwisterCourt y = new TwisterCourt();
        y.nine(4, 30);
        due("back to 0", y.even(NONE), 1);
        y.nine(4, 0);
        due("it is 0", y.even(NONE), 0);
        due("one that must be 0", ways("8,1,10,8,6,4,2,12,4"), 1);
        due("one that must be -1", ways("7,0,9,7,5,3,1,11,3"), 0);
        due("one that must be 30", ways("26,18,28,26,24,22,20,29,22"), 1);
        due("one that must be 31", ways("27,19,29,27,25,23,21,30,23"), 0);
    }

    private static void rule() {
        sentence("33 rule: NONE if one can't be");
        for (int v : new int[] {MIN, -2, 0, 10, MAX}) {
            due("step " + v, new TwisterCourt().rule(0, v), NONE);
        }
        due("step 1", new TwisterCourt().rule(0, 1), 1);
        due("step 9", new TwisterCourt().rule(0, 9), 1);
        for (int v : new int[] {MIN, -2, 201, MAX}) {
            due("bar " + v, new TwisterCourt().rule(1, v), NONE);
        }
        due("bar 0", new TwisterCourt().rule(1, 0), 1);
        due("bar 200", new TwisterCourt().rule(1, 200), 1);
        sentence("33 rule: told already");
        TwisterCourt x = new TwisterCourt();
        for (int v = 5; v <= 8; v++) {
            due("step " + v, x.rule(0, v), v - 4);
            due("bar " + v, x.rule(1, v), v - 4);
        }
        for (int v = 5; v <= 8; v++) {
            due("step " + v + " again", x.rule(0, v), NONE);
            due("bar " + v + " again", x.rule(1, v), NONE);
        }
        sentence("33 rule: or there are five, eight");
        due("the fifth step", x.rule(0, 1), 5);
        due("the sixth step", x.rule(0, 2), NONE);
        for (int v = 11; v <= 13; v++) {
            x.rule(1, v);
        }
        due("the eighth bar", x.rule(1, 14), 8);
        due("the ninth bar", x.rule(1, 15), NONE);
        sentence("33 rule: v NONE: none are then");
        due("steps", x.rule(0, NONE), 0);
        due("the bars stay", x.rule(1, 14), NONE);
        due("a step again", x.rule(0, 5), 1);
        due("bars", x.rule(1, NONE), 0);
        due("the step stays", x.rule(0, 5), NONE);
        due("a bar again", x.rule(1, 14), 1);
        sentence("33 rule: or another what");
        edges("what", 0, 1, 1, 1, NONE, what -> new TwisterCourt().rule(what, 3));
        due("what 2 with NONE", x.rule(2, NONE), NONE);
        due("what -1 with NONE", x.rule(-1, NONE), NONE);
    }

    private static void game() {
        sentence("34 game: NONE, too, if n can't be");
        TwisterCourt x = new TwisterCourt();
        x.rule(0, 9);
        // by nines: 9 .. 17 win, 18 .. 26 lose, and so on: 200 is the fifth of its nine, the second of its eighteen
        edges("from how many of 0 .. n", 0, 0, 200, 99, NONE, n -> x.game(n, 1));
        // by eights 200 is the first of those that win, 192 .. 199 lose
        x.rule(0, NONE);
        x.rule(0, 8);
        due("of 0 .. 199", x.game(199, 1), 96);
        due("of 0 .. 200", x.game(200, 1), 97);
        due("199", x.game(199, 0), NONE);
        due("200", x.game(200, 0), 8);
        x.rule(0, NONE);
        x.rule(0, 1);
        edges("by which step from n", 0, NONE, 200, NONE, NONE, n -> x.game(n, 0));
        due("1", x.game(1, 0), 1);
        due("199", x.game(199, 0), 1);
        sentence("34 game: or another what");
        edges("what", 0, 1, 1, 100, NONE, what -> x.game(199, what));
        sentence("34 game: n barred, too");
        x.rule(1, 199);
        due("199 barred", x.game(199, 0), NONE);
        due("200 has no step", x.game(200, 0), NONE);
        due("198", x.game(198, 0), NONE);
        due("197", x.game(197, 0), 1);
        due("not from 199", x.game(200, 1), 99);
        x.rule(1, 200);
        x.rule(1, 0);
        due("0 barred", x.game(0, 0), NONE);
        due("1 has no step", x.game(1, 0), NONE);
        due("2", x.game(2, 0), 1);
        due("200 barred", x.game(200, 0), NONE);
        due("without 0, 199, 200", x.game(200, 1), 99);
        sentence("34 game: not beyond 0");
        TwisterCourt y = new TwisterCourt();
        y.rule(0, 5);
        due("4: can't", y.game(4, 0), NONE);
        due("5", y.game(5, 0), 5);
        due("9", y.game(9, 0), 5);
        due("10", y.game(10, 0), NONE);
        sentence("34 game: without steps none wins");
        TwisterCourt none = new TwisterCourt();
        due("200", none.game(200, 0), NONE);
        due("of 0 .. 200", none.game(200, 1), 0);
    }

    // ------------------------------------------------------------------------------------------------ the rest

    private static void undo() {
        sentence("35 undo: false if there is nothing");
        TwisterCourt x = fluent();
        due("of a new one", x.undo(), false);
        x.days(1);
        due("a day", x.undo(), true);
        due("nothing more", x.undo(), false);
        due("day 0", x.look(6), 0);
    }

    private static void image() {
        sentence("36 image: false if there is none");
        TwisterCourt x = fluent();
        x.days(2);
        due("none taken", x.image(false), false);
        due("nothing is gone back to", x.look(6), 2);
        due("and nothing forgotten", x.look(13), 2);
        due("taken", x.image(true), true);
        due("gone back to", x.image(false), true);
    }

    private static void look() {
        sentence("37 look: NONE - 99999 for another what");
        TwisterCourt x = three();
        x.days(3);
        edges("what", 0, 3, 13, 3, -100000, x::look);
        due("what 100", x.look(100), -100000);
        sentence("37 look: STATE as it is");
        for (int v : new int[] {MIN, -100000, -1, 0, MAX}) {
            x.state(v);
            due("state " + v, x.look(8), v);
        }
        sentence("37 look: a set, of none and of all");
        TwisterCourt y = full();
        due("none holds", y.look(2), 0);
        due("none is blurred", y.look(3), 0);
        y.act(0, 13);
        y.act(1, 13);
        due("the last holds", y.look(2), 8192);
        for (int b = 0; b < 13; b++) {
            y.act(3, b);
        }
        due("the rest is blurred", y.look(3), 8191);
    }
}
