/** Each promise of the document with answers worked out by hand: ordinary inputs, edges, wrong inputs. */
public final class PromisesTest extends Checks {
    public static void main(String[] args) {
        aNewObject();
        state();
        person();
        bargain();
        set();
        actTwist();
        actOther();
        days();
        daysEdges();
        feedAndEnd();
        text();
        faultsOfLaw();
        faultsOfLines();
        faultsByPlace();
        seventeenLines();
        of();
        deal();
        lawByWord();
        lawArithmetic();
        book();
        goes();
        holds();
        deals();
        jumps();
        walks();
        apart();
        corners();
        parts();
        lasts();
        turning();
        ant();
        row();
        own();
        round();
        even();
        game();
        undo();
        undoForgets();
        image();
        look();
        finish("all promises hold");
    }

    // ------------------------------------------------------------------------------------------------ promises

    private static void aNewObject() {
        sentence("1 a new object");
        TwisterCourt x = new TwisterCourt();
        for (int what = 0; what <= 13; what++) {
            due("look(" + what + ")", x.look(what), 0);
        }
        due("fault(0)", x.fault(0), 0);
        due("fault(1)", x.fault(1), NONE);
        due("undo()", x.undo(), false);
        due("image(false)", x.image(false), false);
        due("jumps(0)", x.jumps(0), NONE);
        due("turning(2)", x.turning(2), 1);
        due("even(0)", x.even(0), 8);
        due("game(9, 0)", x.game(9, 0), NONE);
        due("end(0)", x.end(0), true);
        due("end(1)", x.end(1), false);
    }

    private static void state() {
        sentence("2 state");
        TwisterCourt x = fluent();
        due("state(5)", x.state(5), 0);
        due("look(8)", x.look(8), 5);
        due("state(MIN)", x.state(MIN), 5);
        due("state(-1)", x.state(-1), MIN);
        x.act(0, 0);
        due("two draws", x.look(8), drawn(drawn(-1)));
    }

    private static void person() {
        sentence("3 person");
        TwisterCourt x = new TwisterCourt();
        due("person(-1)", x.person(-1), NONE);
        due("person(10)", x.person(10), NONE);
        for (int i = 0; i < 12; i++) {
            due("person", x.person(i % 10), i);
        }
        due("the thirteenth", x.person(0), NONE);
        due("look(0)", x.look(0), 12);
        due("of(9, 0)", x.of(9, 0), 9);
        due("of(11, 0)", x.of(11, 0), 1);
        due("of(11, 1)", x.of(11, 1), 0);
        due("of(11, 2)", x.of(11, 2), 0);
    }

    private static void bargain() {
        sentence("4 bargain");
        TwisterCourt x = new TwisterCourt();
        x.person(1);
        due("of one who is not", x.bargain(0, 1, 1), NONE);
        x.person(2);
        due("alike", x.bargain(1, 1, 1), NONE);
        due("0 phrases", x.bargain(0, 1, 0), NONE);
        due("10 phrases", x.bargain(0, 1, 10), NONE);
        due("first -1", x.bargain(-1, 1, 1), NONE);
        due("second 2", x.bargain(0, 2, 1), NONE);
        for (int i = 0; i < 14; i++) {
            due("bargain", x.bargain(i % 2, 1 - i % 2, 1 + i % 9), i);
        }
        due("the fifteenth", x.bargain(0, 1, 1), NONE);
        due("look(1)", x.look(1), 14);
        int[] due = {0, 1, 9, 9, 0, 0, 0};
        for (int what = 0; what <= 6; what++) {
            due("deal(8, " + what + ")", x.deal(8, what), due[what]);
        }
        due("deal(13, 0)", x.deal(13, 0), 1);
    }

    private static void set() {
        sentence("5 set");
        TwisterCourt x = fluent();
        due("lips", x.set(0, 2, 7), true);
        due("of(2, 0)", x.of(2, 0), 7);
        due("lips 10", x.set(0, 2, 10), false);
        due("lips -1", x.set(0, 2, -1), false);
        due("lips of none", x.set(0, 3, 1), false);
        due("lips of -1", x.set(0, -1, 1), false);
        due("clear", x.set(1, 1, 3), true);
        due("deal(1, 3)", x.deal(1, 3), 3);
        due("clear 0", x.set(1, 1, 0), false);
        due("clear 10", x.set(1, 1, 10), false);
        due("clear of none", x.set(1, 2, 5), false);
        due("ale", x.set(2, -99, 9), true);
        due("noise", x.set(3, MAX, 8), true);
        due("ale 10", x.set(2, 0, 10), false);
        due("noise -1", x.set(3, 0, -1), false);
        due("look(4)", x.look(4), 9);
        due("look(5)", x.look(5), 8);
        due("what 4", x.set(4, 0, 1), false);
        due("what -1", x.set(-1, 0, 1), false);
        x.act(3, 1);
        due("clear of one blurred", x.set(1, 1, 5), false);
        x.act(0, 0);
        x.act(1, 0);
        due("clear of one that holds", x.set(1, 0, 5), false);
    }

    private static void actTwist() {
        sentence("6 act, twist");
        TwisterCourt x = fluent();
        due("second first", x.act(1, 0), true);
        due("spoken by the second", x.deal(0, 5), 1);
        due("spoken by the first", x.deal(0, 4), 0);
        due("still open", x.deal(0, 6), 0);
        due("again", x.act(1, 0), false);
        due("the first", x.act(0, 0), true);
        due("it holds", x.deal(0, 6), 1);
        due("held", x.of(0, 1) + x.of(1, 1), 2);
        due("held of who is not of it", x.of(2, 1), 0);
        due("said once it holds", x.act(0, 0), false);
        due("blurred once it holds", x.act(3, 0), false);
        due("no such bargain", x.act(0, 2), false);
        due("bargain -1", x.act(1, -1), false);
        // rolls 0: a slip without a draw; costs by the phrase and what is owed ahead
        tell(x, 0, "rolls 0 when phrase=2;rolls 1000;costs 5 when owes=0;costs 7;");
        int was = x.look(8);
        due("slips", x.act(0, 1), true);
        due("one draw alone", x.look(8), drawn(was));
        due("owes", x.of(1, 2), 5);
        due("not spoken", x.deal(1, 4), 0);
        due("slips again", x.act(0, 1), true);
        due("owes more", x.of(1, 2), 12);
        // a draw just at the bound slips, one below it rolls off
        TwisterCourt y = three();
        int high = (drawn(0) >>> 8) % 1000;
        tell(y, 0, "rolls " + high + ";");
        y.act(0, 0);
        due("at the bound he slips", y.book(0, 1), 1);
        y.state(0);
        tell(y, 0, "rolls " + (high + 1) + " when phrase=1;rolls 0;");
        y.act(0, 0);
        due("below it the first phrase rolls off", y.book(1, 3), 2);
        y.act(3, 1);
        due("twist one blurred", y.act(0, 1), false);
    }

    private static void actOther() {
        sentence("6 act, the rest");
        TwisterCourt x = fluent();
        due("clear of a clear one", x.act(2, 0), false);
        x.set(1, 0, 8);
        x.act(0, 0);
        due("clear", x.act(2, 0), true);
        due("clear is 9", x.deal(0, 3), 9);
        due("what is spoken stays", x.deal(0, 4), 1);
        due("blur", x.act(3, 0), true);
        due("is blurred", x.deal(0, 6), 2);
        due("clear 0", x.deal(0, 3), 0);
        due("spoken by none", x.deal(0, 4), 0);
        due("the book tells one", x.book(1, 3), 1);
        due("blur again", x.act(3, 0), false);
        due("clear of a blurred one", x.act(2, 0), true);
        due("is open", x.deal(0, 6), 0);
        due("no line of it", x.look(7), 2);
        x.set(1, 0, 5);
        x.act(0, 0);
        x.act(1, 0);
        due("clear of one that holds", x.act(2, 0), false);
        due("clear stays", x.deal(0, 3), 5);
        due("pays nothing", x.act(4, 0), false);
        tell(x, 0, "rolls 0;costs 2;");
        x.act(0, 1);
        due("pays", x.act(4, 1), true);
        due("owes 1", x.of(1, 2), 1);
        due("pays", x.act(4, 1), true);
        due("pays no more", x.act(4, 1), false);
        due("person -1", x.act(4, -1), false);
        due("person 3", x.act(4, 3), false);
        due("what 5", x.act(5, 0), false);
        due("what -1", x.act(-1, 0), false);
        due("clear no such", x.act(2, 2), false);
        due("blur no such", x.act(3, MIN), false);
    }

    private static void days() {
        sentence("7 days");
        TwisterCourt x = fluent();
        tell(x, 0, "rolls 1000;blurs 4;");
        tell(x, 1, "on 0 bargain 0 first;on 0 bargain 0 second;on 0 bargain 0 first;on 1 bargain 1 second;on 3 bargain 1 first;"
            + "on 3 bargain 1 second;");
        tell(x, 2, "on 0 ale 7;on 0 ale 6;on 1 noise 3;on 1 lips 2 8;on 2 clear 1;on 3 clear 0;");
        due("days(1)", x.days(1), 1);
        due("the later line", x.look(4), 6);
        due("noise not yet", x.look(5), 0);
        due("one that holds is not blurred", x.deal(0, 3), 9);
        due("the other is", x.deal(1, 3), 5);
        due("three lines", x.look(7), 3);
        due("days(1)", x.days(1), 0);
        due("noise", x.look(5), 3);
        due("lips", x.of(2, 0), 8);
        due("clear 1", x.deal(1, 3), 1);
        due("spoken by the second", x.deal(1, 5), 1);
        due("days(1): cleared ahead of the blurring", x.days(1), 0);
        due("clear 5", x.deal(1, 3), 5);
        due("it stays spoken", x.deal(1, 5), 1);
        due("days(1)", x.days(1), 1);
        due("both hold", x.look(2), 3);
        due("one that holds is not cleared anew", x.deal(0, 6), 1);
        due("day", x.look(6), 4);
        // all of it is blurred away, on one day, and the book tells how many had spoken
        TwisterCourt y = fluent();
        tell(y, 0, "rolls 1000;blurs 9 when day=1;");
        tell(y, 1, "on 0 bargain 1 second;");
        due("days(3)", y.days(3), 0);
        due("blurred", y.look(3), 3);
        due("of bargain 0", y.book(1, 2) * 100 + y.book(1, 1) * 10 + y.book(1, 3), 30);
        due("of bargain 1", y.book(2, 2) * 100 + y.book(2, 1) * 10 + y.book(2, 3), 131);
        due("on day 1", y.book(2, 0), 1);
        due("not spoken", y.deal(1, 5), 0);
    }

    private static void daysEdges() {
        sentence("7 days, edges");
        TwisterCourt x = new TwisterCourt();
        due("days(0)", x.days(0), NONE);
        due("days(61)", x.days(61), NONE);
        due("days(-1)", x.days(-1), NONE);
        due("days(MAX)", x.days(MAX), NONE);
        for (int i = 0; i < 166; i++) {
            due("days(60)", x.days(60), 0);
        }
        due("day", x.look(6), 9960);
        due("beyond", x.days(40), NONE);
        due("still", x.look(6), 9960);
        due("up to it", x.days(39), 0);
        due("day", x.look(6), 9999);
        due("one more", x.days(1), NONE);
        due("thought has no such bound", x.goes(60, 0), 0);
        due("undone", x.undo(), true);
        due("day", x.look(6), 9998);
        due("days(1)", x.days(1), 0);
    }

    private static void feedAndEnd() {
        sentence("8 feed, 9 end");
        TwisterCourt x = three();
        for (int i = 1; i <= 20; i++) {
            due("feed", x.feed(i, i, i, i, i), 20 * i);
        }
        due("too many", x.feed(0, 0, 0, 0, 0), NONE);
        due("end(401)", x.end(401), false);
        due("end(-1)", x.end(-1), false);
        due("end(400)", x.end(400), true);
        due("end(381)", x.end(381), true);
        due("end(382)", x.end(382), false);
        due("401 would be", x.feed(0, 0, 0, 0, 0), NONE);
        due("end(380)", x.end(380), true);
        due("feed", x.feed(0, 0, 0, 0, 0), 400);
        due("end(0)", x.end(0), true);
        // "rolls 5;" with the highest byte first, the rest blanks
        due("feed", x.feed(0x726f6c6c, 0x7320353b, 0x20202020, 0x0a0a0a0a, 0x20202020), 20);
        due("text(0)", x.text(0), 1);
        due("rolls", x.deal(0, 11), 5);
        due("the tape is empty", x.end(1), false);
        x.feed(0x726f6c6c, 0x73203537, 0x3b202020, 0x20202020, 0x20202020);
        x.end(7);
        x.feed(0x3b202020, 0x20202020, 0x20202020, 0x20202020, 0x20202020);
        due("cut and joined", x.text(0), 1);
        due("rolls", x.deal(0, 11), 5);
    }

    private static void text() {
        sentence("10 text, 11 fault");
        TwisterCourt x = three();
        good(x, 0, "", 0);
        good(x, 1, "  \n ", 0);
        good(x, 0, "rolls 1;costs 2;", 2);
        bad(x, 0, "rolls", 1, 5);
        due("it stays as it was", x.look(9), 2);
        due("and tells so", x.deal(0, 12), 1);
        due("the tape is empty with a fault too", x.end(1), false);
        tape(x, "rolls 7;");
        due("no such text", x.text(4), NONE);
        due("fault 0", x.fault(0), 0);
        due("no place", x.fault(1), NONE);
        due("the tape is empty then", x.end(1), false);
        tape(x, "rolls 7;");
        due("no such text", x.text(-1), NONE);
        due("the law stays", x.look(9), 2);
        bad(x, 0, "?", 1, 0);
        due("fault(2)", x.fault(2), NONE);
        due("fault(-1)", x.fault(-1), NONE);
        good(x, 0, "", 0);
        due("an empty text is told", x.look(9), 0);
        // tokens need no blanks between, where they are unlike
        good(x, 1, "on0bargain0first;on 1\nbargain 1second;", 2);
        good(x, 2, "on 999 ale 9;on 000 noise 0;on 0001 clear 1;on 1 lips 2 09;", 4);
        good(x, 3, "bargain 0 by 2;bargain 0 by 2;bargain 1 by 0;", 3);
        due("told twice it is one", x.deal(0, 8), 1);
        due("look(10)", x.look(10), 2);
        due("look(11)", x.look(11), 4);
        due("look(12)", x.look(12), 3);
    }

    private static void faultsOfLaw() {
        sentence("10 text, faults of the law");
        TwisterCourt x = three();
        bad(x, 0, "rolls 1", 1, 7);
        bad(x, 0, "rolls 1  ", 1, 9);
        bad(x, 0, "Rolls 1;", 1, 0);
        bad(x, 0, "rollsblurs 1;", 1, 0);
        for (char c : "azAZ".toCharArray()) {
            bad(x, 0, "rolls" + c + " 1;", 1, 0);
        }
        for (char c : "`{@[/:".toCharArray()) {
            bad(x, 0, "rolls" + c + " 1;", 1, 5);
        }
        bad(x, 0, "rolls 9/9:", 1, 9);
        bad(x, 0, "rolls 1;;", 1, 8);
        bad(x, 0, "rolls -1;", 1, 6);
        bad(x, 0, "rolls (1);", 1, 6);
        bad(x, 0, "rolls 1+;", 1, 8);
        bad(x, 0, "rolls 1 2;", 1, 8);
        bad(x, 0, "rolls 1/lips;", 1, 8);
        bad(x, 0, "rolls 1/0000;", 2, 8);
        bad(x, 0, "rolls 1/00000;", 1, 8);
        bad(x, 0, "rolls 10000;", 1, 6);
        bad(x, 0, "rolls phrasess;", 1, 6);
        bad(x, 0, "rolls when;", 1, 6);
        bad(x, 0, "rolls 1 when;", 1, 12);
        bad(x, 0, "rolls 1 when 1;", 1, 14);
        bad(x, 0, "rolls 1 when 1<;", 1, 15);
        bad(x, 0, "rolls 1 when 1<2<3;", 1, 16);
        bad(x, 0, "rolls 1 when 1<=2;", 1, 15);
        bad(x, 0, "rolls 1 when (1=1;", 1, 17);
        bad(x, 0, "rolls 1 when 1=1);", 1, 16);
        bad(x, 0, "rolls 1 when (1)=1;", 1, 15);
        bad(x, 0, "rolls 1 when 1=1 or;", 1, 19);
        bad(x, 0, "rolls 1 when and 1=1;", 1, 13);
        bad(x, 0, "rolls 1 when not;", 1, 16);
        bad(x, 0, "rolls\t1;", 1, 5);
        bad(x, 0, "rolls 1;\r", 1, 8);
        bad(x, 0, "rolls \u00e9;", 1, 6);
        bad(x, 0, "rolls \u0000;", 1, 6);
        bad(x, 0, "on 0 ale 1;", 1, 0);
        good(x, 0, "rolls 9999/1*lips-0+1/9999;", 1);
        good(x, 0, "rolls 1when not(not 1=1 or(1<2 and 2>1));", 1);
        // eight may be open at once, and what is closed counts no more
        good(x, 0, "rolls 1 when ((((((((1=1))))))));", 1);
        good(x, 0, "rolls 1 when not not not not not not not not 1=1 and not not not not not not not not 1=1;", 1);
        good(x, 0, "rolls 1 when (((((((1=1))))))) or not (not (not (not 1=1)));", 1);
        bad(x, 0, "rolls 1 when not(not(not(not(not 1=1))));", 3, 29);
        bad(x, 0, "rolls 1 when ((((((((not 1=1))))))));", 3, 21);
        bad(x, 0, "rolls 1 when ((((((((1=1 or (", 3, 28);
    }

    private static void faultsOfLines() {
        sentence("10 text, faults of lines");
        TwisterCourt x = three();
        bad(x, 1, "on", 1, 2);
        bad(x, 1, "on lips", 1, 3);
        bad(x, 1, "on 1000", 2, 3);
        bad(x, 1, "on 10000", 1, 3);
        bad(x, 1, "on 1 bargain", 1, 12);
        bad(x, 1, "on 1 bargain 2", 2, 13);
        bad(x, 1, "on 1 bargain 1 third;", 1, 15);
        bad(x, 1, "on 1 bargain 1 first", 1, 20);
        bad(x, 1, "on 1 clear 1;", 1, 5);
        good(x, 1, "on 999 bargain 1 first;", 1);
        bad(x, 2, "on 1 bargain 1 first;", 1, 5);
        bad(x, 2, "on 1 ale;", 1, 8);
        bad(x, 2, "on 1 ale 10;", 2, 9);
        bad(x, 2, "on 1 noise 9999;", 2, 11);
        bad(x, 2, "on 1 clear 2;", 2, 11);
        bad(x, 2, "on 1 clear 1 1;", 1, 13);
        bad(x, 2, "on 1 lips 3 1;", 2, 10);
        bad(x, 2, "on 1 lips 2;", 1, 11);
        bad(x, 2, "on 1 lips 2 10;", 2, 12);
        good(x, 2, "on 1 lips 2 9;", 1);
        bad(x, 3, "on 1 bargain 0 by 2;", 1, 0);
        bad(x, 3, "bargain 2 by 0;", 2, 8);
        bad(x, 3, "bargain 0 2;", 1, 10);
        bad(x, 3, "bargain 0 by 3;", 2, 13);
        bad(x, 3, "bargain 1 by 1;", 2, 13);
        bad(x, 3, "bargain 1 by 2;", 2, 13);
        bad(x, 3, "bargain 1 by;", 1, 12);
        good(x, 3, "bargain 1 by 0;", 1);
        TwisterCourt none = new TwisterCourt();
        bad(none, 1, "on 0 bargain 0 first;", 2, 13);
        bad(none, 2, "on 0 lips 0 0;", 2, 10);
        bad(none, 3, "bargain 0 by 0;", 2, 8);
    }

    private static void faultsByPlace() {
        sentence("10 text, the first fault");
        TwisterCourt x = three();
        bad(x, 0, "costs 1/0;sing", 2, 8);
        bad(x, 0, "costs 1 1/0;", 1, 8);
        bad(x, 2, "on 0 ale 10;on 1000 ale 1;", 2, 9);
        bad(x, 2, "on 0 lips 3 10 1;", 2, 10);
        bad(x, 3, "bargain 0 by 2;bargain 0 by 0;bargain 9 by 0;", 2, 28);
    }

    private static void seventeenLines() {
        sentence("10 text, the 17th line");
        TwisterCourt x = three();
        good(x, 0, "blurs 1;".repeat(16), 16);
        bad(x, 0, "blurs 1;".repeat(17), 3, 128);
        bad(x, 0, "blurs 1;".repeat(16) + "costs", 3, 128);
        bad(x, 0, "blurs 1;".repeat(16) + "lips", 1, 128);
        bad(x, 0, "blurs 1;".repeat(16) + ";", 1, 128);
        due("sixteen are told", x.look(9), 16);
        good(x, 1, "on 1 bargain 1 first;".repeat(16), 16);
        bad(x, 1, "on 1 bargain 1 first;".repeat(16) + "on", 3, 336);
        good(x, 2, "on 0 ale 1;".repeat(16), 16);
        bad(x, 2, "on 0 ale 1;".repeat(16) + "on ", 3, 176);
        bad(x, 2, "on 0 ale 1;".repeat(16) + "ale ", 1, 176);
        good(x, 3, "bargain 0 by 2;".repeat(16), 16);
        bad(x, 3, "bargain 0 by 2;".repeat(16) + " bargain 9", 3, 241);
    }

    private static void of() {
        sentence("12 of");
        TwisterCourt x = fluent();
        x.person(3);
        x.bargain(2, 0, 1);
        tell(x, 3, "bargain 0 by 2;bargain 0 by 3;bargain 2 by 3;bargain 1 by 3;bargain 0 by 2;");
        due("lips", x.of(1, 0), 9);
        due("his as first and second", x.of(0, 3), 5);
        due("his", x.of(2, 3), 6);
        due("none his", x.of(3, 3), 0);
        due("he hears", x.of(3, 4), 7);
        due("he hears", x.of(2, 4), 1);
        due("he hears none", x.of(0, 4), 0);
        x.act(0, 0);
        x.act(1, 0);
        due("held", x.of(0, 1), 1);
        due("held", x.of(1, 1), 1);
        due("person 4", x.of(4, 0), NONE);
        due("person -1", x.of(-1, 0), NONE);
        due("what 5", x.of(0, 5), NONE);
        due("what -1", x.of(0, -1), NONE);
    }

    private static void deal() {
        sentence("13 deal");
        TwisterCourt x = three();
        int[] due = {1, 2, 3, 9, 0, 0, 0, 0, 0, NONE, NONE, 1000, 1000, 1000, NONE};
        for (int what = 0; what < due.length; what++) {
            due("deal(1, " + what + ")", x.deal(1, what), due[what]);
        }
        due("rolls of the second", x.deal(1, 21), 700);
        due("phrase 0 of the second", x.deal(1, 20), NONE);
        due("phrase 4 of the second", x.deal(1, 24), NONE);
        due("costs of the first", x.deal(1, 33), 3);
        due("costs of phrase 4", x.deal(1, 34), NONE);
        due("costs of phrase 0", x.deal(1, 30), NONE);
        due("costs of the second", x.deal(1, 42), 2);
        due("phrase 0 of the second", x.deal(1, 40), NONE);
        due("what 50", x.deal(1, 50), NONE);
        due("what 51", x.deal(1, 51), NONE);
        due("what -1", x.deal(1, -1), NONE);
        due("what MIN", x.deal(1, MIN), NONE);
        due("what MAX", x.deal(1, MAX), NONE);
        due("bargain 2", x.deal(2, 0), NONE);
        due("bargain -1", x.deal(-1, 11), NONE);
        x.set(2, 0, 9);
        x.set(3, 0, 5);
        due("rolls with ale", x.deal(0, 11), 630);
        due("rolls with ale and no lips", x.deal(1, 21), 430);
        due("half of each by itself", x.deal(0, 7), 6);
        x.act(3, 1);
        due("rolls whatever it is", x.deal(1, 21), 430);
        due("blurs whatever it is", x.deal(1, 7), 6);
        x.bargain(0, 1, 9);
        due("phrase 9", x.deal(2, 49), 9);
        due("phrase 9 rolls", x.deal(2, 19), 630);
    }

    private static void lawByWord() {
        sentence("13 deal, what the law tells");
        TwisterCourt x = three();
        tell(x, 3, "bargain 0 by 2;");
        tell(x, 0, "costs lips;rolls lips*100+phrase*10+phrases;blurs 7+lips+owes+held+phrase when phrases=2;blurs clear;");
        due("lips, phrase, phrases", x.deal(0, 12), 422);
        due("of the second", x.deal(0, 21), 912);
        due("costs by lips", x.deal(0, 31), 4);
        due("blurs has nobody", x.deal(0, 7), 7);
        due("blurs by clear", x.deal(1, 7), 9);
        x.set(1, 1, 2);
        due("blurs by clear", x.deal(1, 7), 2);
        tell(x, 0, "rolls 11 when hears=1;rolls 22 when ale=3 and noise=4;rolls 33 when ale=3 or noise=4;rolls 44;");
        due("hears", x.deal(0, 11), 11);
        due("none of them", x.deal(1, 11), 44);
        x.set(2, 0, 3);
        due("or", x.deal(1, 11), 33);
        x.set(3, 0, 4);
        due("and", x.deal(1, 11), 22);
        tell(x, 0, "rolls day+1;blurs 0;costs 9 when held>0;costs owes+2;");
        due("day", x.deal(0, 11), 1);
        x.days(4);
        due("day", x.deal(0, 11), 5);
        due("owes", x.deal(0, 31), 2);
        tell(x, 0, "rolls 0;costs 5;");
        x.act(0, 0);
        tell(x, 0, "rolls day+1;blurs 0;costs 9 when held>0;costs owes+2;");
        due("owes of the first", x.deal(0, 31), 7);
        due("owes of the second", x.deal(0, 41), 2);
        tell(x, 0, "rolls 1000;");
        x.act(0, 0);
        x.act(1, 0);
        tell(x, 0, "costs 9 when held>0;costs 1;");
        due("held", x.deal(0, 31), 9);
        due("not held", x.deal(1, 41), 1);
    }

    private static void rolls(TwisterCourt x, String e, int want) {
        due("told '" + e + "'", tell(x, 0, "rolls " + e + ";"), 1);
        due("rolls " + e, x.deal(0, 11), want);
    }

    private static void lawArithmetic() {
        sentence("13 deal, how the law counts");
        TwisterCourt x = three();
        rolls(x, "1+2*3", 7);
        rolls(x, "20-3-4", 13);
        rolls(x, "7*5/2", 17);
        rolls(x, "7/2*2", 6);
        rolls(x, "100/7/2+1", 8);
        rolls(x, "1-2", 0);
        rolls(x, "1001", 1000);
        rolls(x, "9-16/3", 4);
        rolls(x, "100-7/2", 97);
        // ints wrap: 9999 * 9999 * 22 is -2095407274, and its quotients go towards 0
        rolls(x, "9999*9999*22", 0);
        rolls(x, "9999*9999*22/9999/1000+500", 291);
        rolls(x, "9999*9999*9999", 0);
        rolls(x, "9999*9999*43", 1000);
        rolls(x, "9999*9999*43/9999", 417);
        rolls(x, "5 when 1>2 or 2>1 and 1>1", 900);
        rolls(x, "5 when 2>1 or 2>1 and 1>1", 5);
        rolls(x, "5 when (2>1 or 2>1) and 1>1", 900);
        rolls(x, "5 when not 1>1 and 1=1", 5);
        rolls(x, "5 when not (1>1 or 1=1)", 900);
        rolls(x, "5 when not not 1=1", 5);
        rolls(x, "5 when 1+1=2 and 3-1<2*2 and not 2<1", 5);
        due("two lines", tell(x, 0, "rolls 5 when 1=2;rolls 6 when 1=1;rolls 7;"), 3);
        due("the first that is so", x.deal(0, 11), 6);
        due("costs held to 9", tell(x, 0, "costs 10;blurs 10;"), 2);
        due("costs", x.deal(0, 31), 9);
        due("blurs", x.deal(0, 7), 9);
        due("costs held to 0", tell(x, 0, "costs 1-2;blurs 1-2;"), 2);
        due("costs", x.deal(0, 31), 0);
        due("blurs", x.deal(0, 7), 0);
    }

    private static void book() {
        sentence("14 book");
        TwisterCourt x = fluent();
        x.days(3);
        x.act(1, 1);
        x.act(0, 1);
        tell(x, 0, "rolls 1000 when phrase=1;rolls 0;");
        x.act(0, 0);
        x.act(3, 0);
        int[][] due = {{3, 0, 1, 2}, {3, 0, 1, 1}, {3, 2, 1, 3}, {3, 1, 0, 2}, {3, 3, 0, 0}};
        for (int i = 0; i < due.length; i++) {
            for (int what = 0; what <= 3; what++) {
                due("book(" + i + ", " + what + ")", x.book(i, what), due[i][what]);
            }
        }
        due("line 5", x.book(5, 0), NONE);
        due("line -1", x.book(-1, 0), NONE);
        due("what 4", x.book(0, 4), NONE);
        due("what -1", x.book(0, -1), NONE);
        TwisterCourt y = three();
        tell(y, 0, "rolls 0;");
        for (int i = 0; i < 149; i++) {
            y.act(0, 0);
        }
        due("149 lines", y.look(7), 149);
        tell(y, 0, "rolls 1000;");
        y.act(0, 0);
        due("150 lines", y.look(7), 150);
        due("undone", y.undo(), true);
        due("149 lines", y.look(7), 149);
        y.act(0, 0);
        due("said without a line", y.act(1, 0), true);
        due("150 lines", y.look(7), 150);
        due("it holds though", y.deal(0, 6), 1);
        due("the last line", y.book(149, 1), 0);
        due("no more", y.book(150, 0), NONE);
        due("undone", y.undo(), true);
        due("150 lines", y.look(7), 150);
        due("undone", y.undo(), true);
        due("149 lines", y.look(7), 149);
    }

    private static void goes() {
        sentence("15 goes");
        TwisterCourt x = three();
        tell(x, 0, "rolls 500 when phrases=2;rolls 499;blurs 2 when phrases=2;blurs 5 when day<2;costs 4;");
        tell(x, 1, "on 0 bargain 0 first;on 1 bargain 0 second;on 0 bargain 1 first;on 1 bargain 1 second;");
        tell(x, 2, "on 4 clear 1;");
        x.state(77);
        due("1 day: none holds", x.goes(1, 0), 0);
        due("2 days: one holds", x.goes(2, 0), 1);
        due("1 day: owes", x.goes(1, 1), 4);
        due("2 days: owes", x.goes(2, 1), 8);
        due("1 day: clear 7 and 4", x.goes(1, 3), 11);
        due("2 days: clear 7 and 0", x.goes(2, 3), 7);
        due("2 days: blurred", x.goes(2, 2), 1);
        due("5 days: cleared", x.goes(5, 2), 0);
        due("5 days: clear 7 and 9", x.goes(5, 3), 16);
        due("60 days", x.goes(60, 3), 16);
        due("nothing stays: day", x.look(6), 0);
        due("nothing stays: state", x.look(8), 77);
        due("nothing stays: book", x.look(7), 0);
        due("nothing stays: owes", x.of(1, 2), 0);
        due("nothing stays: spoken", x.deal(0, 4), 0);
        due("n 0", x.goes(0, 0), NONE);
        due("n 61", x.goes(61, 0), NONE);
        due("n -1", x.goes(-1, 0), NONE);
        due("what 4", x.goes(1, 4), NONE);
        due("what -1", x.goes(1, -1), NONE);
    }

    private static void holds() {
        sentence("16 holds");
        TwisterCourt x = fluent();
        tell(x, 1, "on 2 bargain 0 first;on 5 bargain 0 second;on 59 bargain 1 first;on 59 bargain 1 second;");
        due("behind 6 days", x.holds(0), 6);
        due("behind 60 days", x.holds(1), 60);
        x.days(1);
        due("behind 5 days", x.holds(0), 5);
        x.undo();
        tell(x, 1, "on 2 bargain 0 first;on 5 bargain 0 second;on 60 bargain 1 first;on 60 bargain 1 second;");
        due("not within 60", x.holds(1), NONE);
        due("of one blurred", x.act(3, 0), true);
        due("never", x.holds(0), NONE);
        tell(x, 2, "on 2 clear 0;");
        due("cleared by then", x.holds(0), 6);
        x.days(6);
        due("now", x.holds(0), 0);
        due("no such", x.holds(2), NONE);
        due("no such", x.holds(-1), NONE);
    }

    private static void deals() {
        sentence("17 deals");
        TwisterCourt x = fluent();
        x.bargain(1, 0, 1);
        x.bargain(0, 1, 1);
        due("none yet", x.deals(0, 1), 0);
        for (int b = 0; b <= 2; b++) {
            x.act(0, b);
            x.act(1, b);
        }
        x.act(0, 3);
        due("two", x.deals(0, 1), 2);
        due("two", x.deals(1, 0), 2);
        due("one", x.deals(2, 1), 1);
        due("none", x.deals(0, 2), 0);
        due("alike", x.deals(1, 1), NONE);
        due("no such", x.deals(0, 3), NONE);
        due("no such", x.deals(-1, 0), NONE);
    }

    private static void jumps() {
        sentence("18 jump, 19 jumps");
        TwisterCourt x = new TwisterCourt();
        due("jump(-2)", x.jump(-2), NONE);
        due("jump(10)", x.jump(10), NONE);
        due("none", x.jumps(0), NONE);
        due("none", x.jumps(1), NONE);
        due("jump(0)", x.jump(0), 1);
        due("one place", x.jumps(0), 0);
        due("one place", x.jumps(1), 0);
        due("jump(9)", x.jump(9), 2);
        due("can't", x.jumps(0), NONE);
        due("furthest", x.jumps(1), 0);
        due("none is then", x.jump(NONE), 0);
        int[] row = {2, 3, 1, 1, 4, 0, 0, 0, 0, 9};
        for (int i = 0; i < row.length; i++) {
            due("jump", x.jump(row[i]), i + 1);
        }
        due("can't: 8 at most", x.jumps(0), NONE);
        due("furthest", x.jumps(1), 8);
        x.jump(NONE);
        int[] other = {2, 3, 1, 1, 4};
        for (int v : other) {
            x.jump(v);
        }
        due("0, 1, 4", x.jumps(0), 2);
        due("the last one at most", x.jumps(1), 4);
        due("what 2", x.jumps(2), NONE);
        due("what -1", x.jumps(-1), NONE);
        x.jump(NONE);
        for (int i = 1; i <= 14; i++) {
            due("jump", x.jump(1), i);
        }
        due("fourteen", x.jump(1), NONE);
        due("thirteen jumps", x.jumps(0), 13);
        due("furthest", x.jumps(1), 13);
    }

    private static void walks() {
        sentence("20 walks");
        TwisterCourt x = new TwisterCourt();
        int[] all = {1, 4, 12, 36, 100, 284, 780, 2172, 5916};
        for (int n = 0; n <= 8; n++) {
            due("walks(" + n + ")", x.walks(n, -100, MAX), all[n]);
        }
        due("none of 0", x.walks(0, 0, 0), 1);
        due("straight", x.walks(8, -8, 0), 1);
        due("straight", x.walks(8, 0, 8), 1);
        due("once aside", x.walks(8, 7, 1), 8);
        due("back never", x.walks(4, 0, 0), 0);
        due("3 to the next", x.walks(3, 0, -1), 2);
        due("odd", x.walks(3, 1, 1), 0);
        due("n 9", x.walks(9, 0, 0), NONE);
        due("n -1", x.walks(-1, -100, 0), NONE);
        due("x 9", x.walks(3, 9, 0), NONE);
        due("x -9", x.walks(3, -9, 0), NONE);
        due("y 9", x.walks(3, 0, 9), NONE);
        due("y -9", x.walks(3, 0, -9), NONE);
        due("x -99", x.walks(3, -99, 0), NONE);
    }

    private static void apart() {
        sentence("21 apart");
        TwisterCourt x = new TwisterCourt();
        int[][] due = {{2, 3, 2}, {3, 2, 1}, {5, 9, 4}, {13, 649, 180}, {29, 9801, 1820}, {46, 24335, 3588}, {50, 99, 14}};
        for (int[] d : due) {
            due("x of " + d[0], x.apart(d[0], 0), d[1]);
            due("y of " + d[0], x.apart(d[0], 1), d[2]);
        }
        for (int r = 2; r <= 7; r++) {
            due("a square", x.apart(r * r, 0), NONE);
            due("a square", x.apart(r * r, 1), NONE);
        }
        due("d 1", x.apart(1, 0), NONE);
        due("d 51", x.apart(51, 0), NONE);
        due("what 2", x.apart(2, 2), NONE);
        due("what -1", x.apart(2, -1), NONE);
    }

    private static void corners() {
        sentence("22 corners");
        TwisterCourt x = new TwisterCourt();
        due("4", x.corners(4, 0), 0);
        due("5", x.corners(5, 0), 1);
        due("10", x.corners(10, 0), 2);
        due("25", x.corners(25, 0), 8);
        due("100", x.corners(100, 0), 52);
        due("200", x.corners(200, 0), 127);
        due("together 12", x.corners(12, 1), 1);
        due("together 120", x.corners(120, 1), 3);
        due("together 13", x.corners(13, 1), 0);
        due("together 200", x.corners(200, 1), 1);
        due("1", x.corners(1, 0) + x.corners(1, 1), 0);
        due("n 0", x.corners(0, 0), NONE);
        due("n 201", x.corners(201, 1), NONE);
        due("what 2", x.corners(5, 2), NONE);
        due("what -1", x.corners(5, -1), NONE);
    }

    private static void parts() {
        sentence("23 parts");
        TwisterCourt x = new TwisterCourt();
        int[][] due = {{1, 1, 0}, {2, 2, 0}, {7, 2, 0}, {6, 1, 6}, {25, 2, 6}, {28, 1, 28}, {12, 7, 0}, {220, 2, 220},
            {284, 2, 284}, {562, 3, 284}, {276, 11, 10164}, {997, 2, 0}};
        for (int[] d : due) {
            due("times of " + d[0], x.parts(d[0], 0), d[1]);
            due("end of " + d[0], x.parts(d[0], 1), d[2]);
        }
        due("n 0", x.parts(0, 0), NONE);
        due("n 1000", x.parts(1000, 0), NONE);
        due("what 2", x.parts(6, 2), NONE);
        due("what -1", x.parts(6, -1), NONE);
    }

    private static void lasts() {
        sentence("24 lasts");
        TwisterCourt x = new TwisterCourt();
        int[][] due = {{0, 0, 0, 0, 0}, {9, 0, 9, 0, 9}, {10, 1, 1, 1, 0}, {39, 2, 3, 3, 4}, {77, 2, 5, 4, 8},
            {679, 2, 4, 5, 6}, {6788, 3, 2, 6, 0}, {68889, 3, 3, 7, 0}, {999999, 2, 9, 3, 0}, {199, 3, 1, 2, 8}};
        for (int[] d : due) {
            for (int what = 0; what <= 3; what++) {
                due("lasts(" + d[0] + ", " + what + ")", x.lasts(d[0], what), d[1 + what]);
            }
        }
        due("n -1", x.lasts(-1, 0), NONE);
        due("n 1000000", x.lasts(1000000, 3), NONE);
        due("what 4", x.lasts(5, 4), NONE);
        due("what -1", x.lasts(5, -1), NONE);
    }

    private static void turns(TwisterCourt x, String row, int endX, int endY, int squares, int field) {
        due("turn(NONE)", x.turn(NONE), 0);
        for (int i = 0; i < row.length(); i++) {
            due("turn of " + row, x.turn(row.charAt(i) - '0'), i + 1);
        }
        due("x of " + row, x.turning(0), endX);
        due("y of " + row, x.turning(1), endY);
        due("squares of " + row, x.turning(2), squares);
        due("field of " + row, x.turning(3), field);
    }

    private static void turning() {
        sentence("25 turn, 26 turning");
        TwisterCourt x = new TwisterCourt();
        due("turn(3)", x.turn(3), NONE);
        due("turn(-2)", x.turn(-2), NONE);
        turns(x, "", 0, 0, 1, 0);
        turns(x, "12", 0, 0, 1, 0);
        turns(x, "0010", 2, 1, 4, -1000);
        turns(x, "2000", 0, -3, 4, -1000);
        turns(x, "0101010", 0, 0, 4, 2);
        turns(x, "0202020", 0, 0, 4, -2);
        turns(x, "0110", 0, 0, 2, 0);
        turns(x, "00100100100", 0, 0, 8, 8);
        turns(x, "0000000000000000", 16, 0, 17, -1000);
        // an eight: one round by the left, one by the right
        turns(x, "0101010202020202", 0, 0, 6, 0);
        due("sixteen", x.turn(0), NONE);
        due("what 4", x.turning(4), -10000);
        due("what -1", x.turning(-1), -10000);
        due("turn(NONE)", x.turn(NONE), 0);
        due("what 4 of none", x.turning(4), -10000);
    }

    private static void ant() {
        sentence("27 ant");
        TwisterCourt x = new TwisterCourt();
        int[][] due = {{0, 27, 0}, {1, 28, 1}, {2, 36, 2}, {3, 35, 3}, {4, 27, 4}, {5, 26, 3}};
        for (int[] d : due) {
            due("where behind " + d[0], x.ant(d[0], 0), d[1]);
            due("black behind " + d[0], x.ant(d[0], 1), d[2]);
        }
        // each step makes one black or one white
        for (int n = 0; n < 300; n++) {
            x = n % 100 == 0 ? new TwisterCourt() : x;
            due("one more or less", Math.abs(x.ant(n + 1, 1) - x.ant(n, 1)), 1);
            int from = x.ant(n, 0);
            int to = x.ant(n + 1, 0);
            int dx = Math.floorMod(to % 8 - from % 8, 8);
            int dy = Math.floorMod(to / 8 - from / 8, 8);
            due("one step", dx == 0 && (dy == 1 || dy == 7) || dy == 0 && (dx == 1 || dx == 7), true);
        }
        due("n -1", x.ant(-1, 0), NONE);
        due("n 301", x.ant(301, 0), NONE);
        due("what 2", x.ant(1, 2), NONE);
        due("what -1", x.ant(1, -1), NONE);
    }

    private static void row() {
        sentence("28 row");
        TwisterCourt x = new TwisterCourt();
        due("no times", x.row(12345, 30, 0), 12345);
        due("rule 204 keeps", x.row(12345, 30 * 256 + 204, 0), 12345);
        due("rule 2: from below", x.row(0x8001, 256 + 2, 0), 0x0002);
        due("rule 16: from above", x.row(0x0030, 256 + 16, 0), 0x0008);
        due("rule 16: round", x.row(0x0001, 256 + 16, 0), 0x8000);
        due("rule 4: alone", x.row(0b0101_1001, 256 + 4, 0), 0b0100_0001);
        due("rule 90", x.row(0x0100, 256 + 90, 0), 0x0280);
        due("rule 90 twice", x.row(0x0100, 2 * 256 + 90, 0), 0x0440);
        due("rule 90: bits", x.row(0x0100, 256 * 3 + 90, 1), 4);
        due("rule 30", x.row(0x0100, 256 + 30, 0), 0x0380);
        due("rule 30 twice", x.row(0x0100, 2 * 256 + 30, 0), 0x0640);
        due("rule 255", x.row(0, 256 + 255, 1), 16);
        due("v -1", x.row(-1, 0, 0), NONE);
        due("v 65536", x.row(65536, 0, 0), NONE);
        due("v 65535", x.row(65535, 0, 1), 16);
        due("n 31", x.row(1, 31 * 256, 0), NONE);
        due("n 30", x.row(1, 31 * 256 - 1, 0), 65535);
        due("rn -1", x.row(1, -1, 0), NONE);
        due("what 2", x.row(1, 1, 2), NONE);
        due("what -1", x.row(1, 1, -1), NONE);
    }

    private static void own() {
        sentence("29 own");
        TwisterCourt x = new TwisterCourt();
        int[][] due = {{6174, 0, 6174}, {3524, 3, 8352}, {1467, 1, 6174}, {9831, 7, 9831}, {1, 5, 8991}, {5555, NONE, 5555},
            {9999, NONE, 9999}, {0, NONE, 0}, {2111, 5, 8991}};
        for (int[] d : due) {
            due("times of " + d[0], x.own(d[0], 0), d[1]);
            due("greatest of " + d[0], x.own(d[0], 1), d[2]);
        }
        due("n -1", x.own(-1, 0), NONE);
        due("n 10000", x.own(10000, 1), NONE);
        due("what 2", x.own(1, 2), NONE);
        due("what -1", x.own(1, -1), NONE);
    }

    private static void round() {
        sentence("30 round");
        TwisterCourt x = new TwisterCourt();
        // taps 1 turn the bits round
        due("1 of 4 bits", x.round(4, 1, 1, 1), 8);
        due("round in 4", x.round(4, 1, 1, NONE), 4);
        due("round in 2", x.round(4, 1, 5, NONE), 2);
        due("at once", x.round(4, 1, 15, NONE), 1);
        due("1000 times", x.round(4, 1, 3, 1000), 3);
        due("the longest of 4", x.round(4, 3, 1, NONE), 15);
        due("3 bits", x.round(3, 3, 4, 1), 2);
        due("3 bits", x.round(3, 3, 4, 2), 5);
        due("the lowest bit goes for ever", x.round(3, 4, 1, NONE), NONE);
        due("to 0", x.round(3, 4, 1, 1), 0);
        due("0 stays", x.round(3, 4, 1, 1000), 0);
        due("w 1", x.round(1, 1, 1, 0), NONE);
        due("w 9", x.round(9, 1, 1, 0), NONE);
        due("t 0", x.round(4, 0, 1, 0), NONE);
        due("t 16", x.round(4, 16, 1, 0), NONE);
        due("v 0", x.round(4, 1, 0, 0), NONE);
        due("v 16", x.round(4, 1, 16, 0), NONE);
        due("8 bits", x.round(8, 255, 255, 0), 255);
        due("n -2", x.round(4, 1, 1, -2), NONE);
        due("n 1001", x.round(4, 1, 1, 1001), NONE);
    }

    private static void even() {
        sentence("31 nine, 32 even");
        TwisterCourt x = new TwisterCourt();
        int[] square = {2, 7, 6, 9, 5, 1, 4, 3, 8};
        for (int i = 0; i < 9; i++) {
            due("nine", x.nine(i, square[i]), true);
        }
        due("all eight", x.even(15), 8);
        due("no way more", x.even(NONE), 0);
        due("nine", x.nine(4, 6), true);
        due("four left", x.even(15), 4);
        due("four of 16", x.even(16), 4);
        due("one way back", x.even(NONE), 1);
        x.nine(4, 5);
        x.nine(0, 30);
        due("one way", x.even(NONE), 1);
        due("five left", x.even(15), 5);
        x.nine(1, 30);
        due("none", x.even(NONE), 0);
        due("place 9", x.nine(9, 1), false);
        due("place -1", x.nine(-1, 1), false);
        due("v 31", x.nine(1, 31), false);
        due("v -1", x.nine(1, -1), false);
        for (int i = 0; i < 9; i++) {
            x.nine(i, 30);
        }
        due("90", x.even(90), 8);
        x.nine(5, 0);
        due("one way to 30", x.even(NONE), 1);
        due("two lines less", x.even(90), 6);
        x.nine(5, 30);
        due("0", x.even(0), 0);
        due("91", x.even(91), NONE);
        due("-2", x.even(-2), NONE);
    }

    private static void game() {
        sentence("33 rule, 34 game");
        TwisterCourt x = new TwisterCourt();
        due("no steps", x.game(5, 0), NONE);
        due("no steps", x.game(5, 1), 0);
        due("step 0", x.rule(0, 0), NONE);
        due("step 10", x.rule(0, 10), NONE);
        due("step 3", x.rule(0, 3), 1);
        due("step 1", x.rule(0, 1), 2);
        due("step 3 again", x.rule(0, 3), NONE);
        due("step 2", x.rule(0, 2), 3);
        due("0", x.game(0, 0), NONE);
        due("1", x.game(1, 0), 1);
        due("3", x.game(3, 0), 3);
        due("4 loses", x.game(4, 0), NONE);
        due("200 loses", x.game(200, 0), NONE);
        due("199", x.game(199, 0), 3);
        due("of 0 .. 200", x.game(200, 1), 150);
        due("of 0", x.game(0, 1), 0);
        // 0 barred: 1 loses now, so 2, 3, 4 win and 5 loses
        due("bar 0", x.rule(1, 0), 1);
        due("bar 0 again", x.rule(1, 0), NONE);
        due("1", x.game(1, 0), NONE);
        due("2", x.game(2, 0), 1);
        due("4", x.game(4, 0), 3);
        due("5", x.game(5, 0), NONE);
        due("of 0 .. 5", x.game(5, 1), 3);
        due("0 itself", x.game(0, 0), NONE);
        due("bar 3", x.rule(1, 3), 2);
        due("3 itself", x.game(3, 0), NONE);
        due("of 0 .. 3, not 3", x.game(3, 1), 1);
        due("bar 201", x.rule(1, 201), NONE);
        due("bar -2", x.rule(1, -2), NONE);
        for (int i = 3; i <= 8; i++) {
            due("bar", x.rule(1, 203 - i), i);
        }
        due("eight", x.rule(1, 100), NONE);
        due("none are then", x.rule(1, NONE), 0);
        due("4 loses again", x.game(4, 0), NONE);
        due("step 8", x.rule(0, 8), 4);
        due("step 9", x.rule(0, 9), 5);
        due("five", x.rule(0, 5), NONE);
        due("none are then", x.rule(0, NONE), 0);
        due("what 2", x.rule(2, NONE), NONE);
        due("what -1", x.rule(-1, 1), NONE);
        // the least step of those that win, in whatever order they were told
        x.rule(0, 5);
        due("5", x.game(5, 0), 5);
        due("5 .. 9 of each ten", x.game(200, 1), 100);
        due("199 is the last of them", x.game(199, 1), 100);
        due("198 is not", x.game(198, 1), 99);
        x.rule(1, 0);
        due("0 barred: from 200 to 195, which loses", x.game(200, 0), 5);
        due("200, too", x.game(200, 1), 100);
        due("but for 200", x.game(199, 1), 99);
        x.rule(1, NONE);
        x.rule(0, 4);
        due("8: by 5 to 3", x.game(8, 0), 5);
        due("5: by 4 and by 5", x.game(5, 0), 4);
        due("n -1", x.game(-1, 0), NONE);
        due("n 201", x.game(201, 1), NONE);
        due("what 2", x.game(1, 2), NONE);
        due("what -1", x.game(1, -1), NONE);
    }

    private static void undo() {
        sentence("35 undo");
        TwisterCourt x = fluent();
        tell(x, 2, "on 0 ale 5;on 0 noise 6;on 0 lips 0 1;");
        x.state(123);
        x.act(0, 0);
        due("days(3)", x.days(3), 0);
        due("four", x.look(13), 4);
        due("undo", x.undo() && x.undo() && x.undo(), true);
        due("day", x.look(6), 0);
        due("ale", x.look(4), 0);
        due("noise", x.look(5), 0);
        due("lips", x.of(0, 0), 4);
        due("clear", x.deal(1, 3), 9);
        due("spoken still", x.deal(0, 4), 1);
        due("undo", x.undo(), true);
        due("spoken no more", x.deal(0, 4), 0);
        due("state", x.look(8), 123);
        due("book", x.look(7), 0);
        due("nothing left", x.undo(), false);
        due("none", x.look(13), 0);
        tell(x, 0, "rolls 1000;blurs 0;");
        due("days(10)", x.days(10), 0);
        due("six are kept", x.look(13), 6);
        for (int i = 0; i < 6; i++) {
            due("undo", x.undo(), true);
        }
        due("seven not", x.undo(), false);
        due("day 4", x.look(6), 4);
        // clearing, blurring, paying, and a bargain that held
        x.set(1, 0, 3);
        x.act(2, 0);
        x.act(3, 0);
        x.undo();
        due("blurring undone", x.deal(0, 6), 0);
        due("clear 9", x.deal(0, 3), 9);
        x.undo();
        due("clearing undone", x.deal(0, 3), 3);
        x.act(0, 0);
        x.act(1, 0);
        x.undo();
        due("held undone", x.of(0, 1) + x.of(1, 1) + x.deal(0, 6), 0);
        tell(x, 0, "rolls 0;costs 3;");
        x.act(1, 0);
        x.act(4, 1);
        x.undo();
        due("paying undone", x.of(1, 2), 3);
        x.undo();
        due("slipping undone", x.of(1, 2), 0);
    }

    private static void stays(TwisterCourt x, String what, int kept) {
        due("what can be undone behind " + what, x.look(13), kept);
        x.days(1);
    }

    private static void undoForgets() {
        sentence("35 undo, what forgets");
        TwisterCourt x = fluent();
        x.days(1);
        tell(x, 0, "costs 1;");
        stays(x, "the law", 1);
        tell(x, 3, "bargain 0 by 2;");
        stays(x, "hears", 2);
        x.jump(1);
        x.turn(1);
        x.nine(1, 1);
        x.rule(0, 1);
        x.rule(1, 1);
        x.jump(NONE);
        stays(x, "thought", 3);
        x.feed(0, 0, 0, 0, 0);
        x.end(0);
        x.image(true);
        x.goes(3, 0);
        stays(x, "the tape and the image", 4);
        x.person(10);
        x.bargain(0, 0, 1);
        x.set(4, 0, 0);
        x.act(4, 0);
        x.days(0);
        tell(x, 1, "on");
        tell(x, 2, "on");
        x.text(9);
        stays(x, "what is refused", 5);
        due("undo brings no law back", x.undo(), true);
        due("the law stays", x.look(9), 1);
        due("hears stays", x.look(12), 1);
        x.days(1);
        tell(x, 1, "");
        stays(x, "twists", 0);
        tell(x, 2, "");
        stays(x, "tavern", 0);
        x.state(0);
        stays(x, "state", 0);
        x.person(1);
        stays(x, "person", 0);
        x.bargain(0, 2, 1);
        stays(x, "bargain", 0);
        for (int what = 0; what <= 3; what++) {
            x.set(what, 0, 1);
            stays(x, "set", 0);
        }
        x.image(false);
        stays(x, "the image", 0);
    }

    private static void image() {
        sentence("36 image");
        TwisterCourt x = fluent();
        due("none", x.image(false), false);
        tell(x, 1, "on 3 bargain 0 first;");
        tell(x, 2, "on 2 ale 4;");
        tell(x, 3, "bargain 0 by 2;");
        x.act(0, 1);
        x.jump(3);
        x.turn(0);
        x.nine(0, 5);
        x.rule(0, 2);
        x.rule(1, 7);
        x.state(99);
        x.days(1);
        due("taken", x.image(true), true);
        due("it forgets nothing", x.look(13), 1);
        for (int times = 0; times < 2; times++) {
            x.person(3);
            x.bargain(0, 2, 4);
            x.set(0, 0, 0);
            x.set(3, 0, 9);
            x.days(5);
            x.act(3, 1);
            for (int k = 0; k <= 3; k++) {
                tell(x, k, "");
            }
            x.jump(1);
            x.turn(NONE);
            x.nine(0, 1);
            x.rule(0, NONE);
            x.rule(1, 8);
            bad(x, 0, "rolls", 1, 5);
            x.feed(0, 0, 0, 0, 0);
            due("gone back", x.image(false), true);
            due("persons", x.look(0), 3);
            due("bargains", x.look(1), 2);
            due("lips", x.of(0, 0), 4);
            due("ale", x.look(4), 0);
            due("noise", x.look(5), 0);
            due("day", x.look(6), 1);
            due("book", x.look(7), 1);
            due("state", x.look(8), 99);
            due("lines", x.look(9) * 1000 + x.look(10) * 100 + x.look(11) * 10 + x.look(12), 1111);
            due("spoken", x.deal(1, 4), 1);
            due("open", x.deal(1, 6), 0);
            due("hears", x.deal(0, 8), 1);
            due("rolls", x.deal(1, 21), 1000);
            due("jumps", x.jumps(1), 0);
            due("turns", x.turning(0), 1);
            due("even", x.even(5), 3);
            due("game", x.game(2, 0), 2);
            due("barred", x.game(7, 0), NONE);
            due("8 is not", x.rule(1, 8), 2);
            due("nothing can be undone", x.look(13), 0);
            due("nothing", x.undo(), false);
            due("the fault is as it was", x.fault(0) * 10 + x.fault(1), 15);
            due("the tape is as it was", x.end(20), true);
        }
        x.days(3);
        due("taken anew", x.image(true), true);
        x.days(1);
        x.image(false);
        due("day", x.look(6), 4);
    }

    private static void look() {
        sentence("37 look");
        TwisterCourt x = fluent();
        x.set(2, 0, 1);
        x.set(3, 0, 2);
        tell(x, 0, "rolls 1000;costs 1;blurs 0;");
        tell(x, 1, "on 1 bargain 0 first;on 2 bargain 0 first;");
        tell(x, 2, "on 9 ale 0;");
        tell(x, 3, "bargain 0 by 2;bargain 1 by 0;bargain 1 by 0;bargain 0 by 2;");
        x.bargain(2, 0, 1);
        x.bargain(2, 1, 1);
        x.state(-5);
        x.act(0, 1);
        x.act(1, 1);
        x.act(3, 2);
        x.act(3, 0);
        x.days(1);
        int state = -5;
        for (int i = 0; i < 6; i++) {
            state = drawn(state);
        }
        int[] due = {3, 4, 2, 5, 1, 2, 1, 5, state, 3, 2, 1, 4, 5};
        for (int what = 0; what < due.length; what++) {
            due("look(" + what + ")", x.look(what), due[what]);
        }
        due("what 14", x.look(14), -100000);
        due("what -1", x.look(-1), -100000);
        due("what MIN", x.look(MIN), -100000);
    }
}
