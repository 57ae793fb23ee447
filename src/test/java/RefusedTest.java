/** "NONE, and nothing is done", "changing nothing", "it stays as it was": each call that is refused leaves all as it was. */
public final class RefusedTest extends Checks {
    private static final String BYTES = "rolls 77;           ";

    public static void main(String[] args) {
        told();
        done();
        texts();
        thought();
        asked();
        whenFull();
        finish("what is refused changes nothing");
    }

    /** A call that the document refuses; a boolean counts 1 or 0. */
    private interface Refusal {
        long by(TwisterCourt x);
    }

    /** BARGAIN 0 open and said by one, 1 holds, 2 blurred, 3 open and clear; everything is told, three can be undone. */
    private static TwisterCourt busy() {
        TwisterCourt x = fluent();
        x.bargain(0, 2, 1);
        x.bargain(2, 1, 9);
        tell(x, 1, "on 2 bargain 3 first;on 9 bargain 3 second;");
        tell(x, 2, "on 2 ale 3;on 3 noise 4;on 9 lips 2 7;");
        tell(x, 3, "bargain 0 by 2;bargain 1 by 0;");
        x.state(-77);
        x.act(0, 1);
        x.act(1, 1);
        x.act(1, 0);
        x.set(1, 0, 6);
        x.jump(2);
        x.jump(1);
        x.turn(1);
        x.turn(0);
        x.nine(4, 8);
        x.rule(0, 2);
        x.rule(1, 5);
        x.act(3, 2);
        tell(x, 0, "rolls 0;costs 4;blurs 1 when ale>0;");
        x.act(0, 3);
        x.days(1);
        bad(x, 1, "on 1000", 2, 3);
        tape(x, BYTES);
        return x;
    }

    /** All that can be asked without a change. */
    private static String allOf(TwisterCourt x) {
        StringBuilder all = new StringBuilder();
        for (int what = 0; what <= 13; what++) {
            all.append(x.look(what)).append(' ');
        }
        int persons = x.look(0);
        for (int p = 0; p < persons; p++) {
            for (int what = 0; what <= 4; what++) {
                all.append(x.of(p, what)).append(' ');
            }
        }
        int bargains = x.look(1);
        for (int b = 0; b < bargains; b++) {
            for (int what = 0; what <= 8; what++) {
                all.append(x.deal(b, what)).append(' ');
            }
            all.append(x.deal(b, 11)).append(' ').append(x.deal(b, 31)).append(' ').append(x.holds(b)).append(' ');
        }
        int lines = x.look(7);
        for (int i = 0; i < lines; i++) {
            for (int what = 0; what <= 3; what++) {
                all.append(x.book(i, what)).append(' ');
            }
        }
        for (int what = 0; what <= 3; what++) {
            all.append(x.goes(9, what)).append(' ').append(x.turning(what)).append(' ').append(x.jumps(what)).append(' ')
                .append(x.game(12, what)).append(' ').append(x.even(4 * what)).append(' ').append(x.fault(what)).append(' ');
        }
        return all.toString();
    }

    /** The TAPE can be told of only by changing it, so this comes last. */
    private static void tapeIs(String what, TwisterCourt x, int length) {
        due("the tape behind " + what + " is no longer", x.end(length + 1), false);
        due("the tape behind " + what + " is no shorter", x.end(length), true);
    }

    private static void refused(String what, long refusal, Refusal call) {
        TwisterCourt x = busy();
        String was = allOf(x);
        due(what, call.by(x), refusal);
        due("all behind " + what, allOf(x), was);
        tapeIs(what, x, BYTES.length());
        due("the tape behind " + what, x.text(0), 1);
        due("told by it", x.deal(0, 11), 77);
    }

    private static void told() {
        sentence("refused: person, bargain, set");
        for (int lips : new int[] {-1, 10}) {
            refused("person(" + lips + ")", NONE, x -> x.person(lips));
        }
        refused("bargain(0, 0, 1)", NONE, x -> x.bargain(0, 0, 1));
        refused("bargain(-1, 0, 1)", NONE, x -> x.bargain(-1, 0, 1));
        refused("bargain(0, 3, 1)", NONE, x -> x.bargain(0, 3, 1));
        refused("bargain(0, 1, 0)", NONE, x -> x.bargain(0, 1, 0));
        refused("bargain(0, 1, 10)", NONE, x -> x.bargain(0, 1, 10));
        for (int what = 0; what <= 3; what++) {
            int it = what;
            refused("set(" + what + ", 0, -1)", 0, x -> bit(x.set(it, 0, -1)));
            refused("set(" + what + ", 0, 10)", 0, x -> bit(x.set(it, 0, 10)));
        }
        refused("set(0, 3, 1)", 0, x -> bit(x.set(0, 3, 1)));
        refused("set(0, -1, 1)", 0, x -> bit(x.set(0, -1, 1)));
        refused("set(1, 0, 0)", 0, x -> bit(x.set(1, 0, 0)));
        refused("set(1, 1, 5): it holds", 0, x -> bit(x.set(1, 1, 5)));
        refused("set(1, 2, 5): it is blurred", 0, x -> bit(x.set(1, 2, 5)));
        refused("set(1, 4, 5)", 0, x -> bit(x.set(1, 4, 5)));
        refused("set(4, 0, 5)", 0, x -> bit(x.set(4, 0, 5)));
        refused("set(-1, 0, 5)", 0, x -> bit(x.set(-1, 0, 5)));
    }

    private static void done() {
        sentence("refused: act, days");
        refused("said by the second already", 0, x -> bit(x.act(1, 0)));
        for (int what = 0; what <= 3; what++) {
            int it = what;
            refused("act(" + what + ", 1): it holds", 0, x -> bit(x.act(it, 1)));
            refused("act(" + what + ", 4)", 0, x -> bit(x.act(it, 4)));
            refused("act(" + what + ", -1)", 0, x -> bit(x.act(it, -1)));
        }
        refused("act(0, 2): it is blurred", 0, x -> bit(x.act(0, 2)));
        refused("act(1, 2): it is blurred", 0, x -> bit(x.act(1, 2)));
        refused("act(3, 2): it is blurred", 0, x -> bit(x.act(3, 2)));
        refused("act(2, 3): it is clear", 0, x -> bit(x.act(2, 3)));
        refused("act(4, 0): he owes nothing", 0, x -> bit(x.act(4, 0)));
        refused("act(4, 3)", 0, x -> bit(x.act(4, 3)));
        refused("act(4, -1)", 0, x -> bit(x.act(4, -1)));
        refused("act(5, 0)", 0, x -> bit(x.act(5, 0)));
        refused("act(-1, 0)", 0, x -> bit(x.act(-1, 0)));
        for (int n : new int[] {MIN, -1, 0, 61, MAX}) {
            refused("days(" + n + ")", NONE, x -> x.days(n));
        }
        refused("image(false), none taken", 0, x -> bit(x.image(false)));
        sentence("refused: days beyond 9999");
        TwisterCourt late = onDay(9980);
        tell(late, 1, "on 0 bargain 0 first;");
        tell(late, 0, "rolls 1000;blurs 1;");
        late.days(1);
        String was = allOf(late);
        due("days(19)", late.days(19), NONE);
        due("all behind it", allOf(late), was);
        sentence("refused: undo of nothing");
        TwisterCourt x = busy();
        x.state(5);
        String then = allOf(x);
        due("undo", x.undo(), false);
        due("all behind it", allOf(x), then);
        tapeIs("undo", x, BYTES.length());
    }

    /** text() empties the TAPE and tells its fault anew; all else must stay. */
    private static void faulty(int k, String s, int fault, int place) {
        TwisterCourt x = busy();
        bad(x, k, s, fault, place);
        String was = allOf(x);
        bad(x, k, s, fault, place);
        due("all behind '" + s + "'", allOf(x), was);
        tapeIs("'" + s + "'", x, 0);
        TwisterCourt y = busy();
        for (int what = 0; what <= 13; what++) {
            due("look(" + what + ") behind '" + s + "'", x.look(what), y.look(what));
        }
    }

    private static void texts() {
        sentence("refused: a text with a FAULT");
        faulty(0, "rolls 9;blurs 9;costs 9;?", 1, 24);
        faulty(0, "rolls 9;rolls 9/0;", 2, 16);
        faulty(0, "rolls 9;".repeat(17), 3, 128);
        faulty(1, "on 0 bargain 0 first;on", 1, 23);
        faulty(1, "on 0 bargain 0 first;on 0 bargain 4 first;", 2, 34);
        faulty(1, "on 0 bargain 0 first;".repeat(17), 3, 336);
        faulty(2, "on 0 ale 9;on 0 noise 9;on", 1, 26);
        faulty(2, "on 0 ale 9;on 0 noise 10;", 2, 22);
        faulty(2, "on 0 ale 9;".repeat(17), 3, 176);
        faulty(3, "bargain 0 by 2;by", 1, 15);
        faulty(3, "bargain 1 by 0;bargain 1 by 1;", 2, 28);
        faulty(3, "bargain 1 by 0;".repeat(17), 3, 240);
        faulty(-1, "rolls 9;", 0, NONE);
        faulty(4, "rolls 9;", 0, NONE);
        sentence("refused: feed, end");
        refused("end(21)", 0, x -> bit(x.end(21)));
        refused("end(-1)", 0, x -> bit(x.end(-1)));
        TwisterCourt x = busy();
        String was = allOf(x);
        tape(x, "?".repeat(381));
        due("feed to 401", x.feed(0, 0, 0, 0, 0), NONE);
        due("all behind it", allOf(x), was);
        tapeIs("feed", x, 381);
    }

    private static void thought() {
        sentence("refused: jump, turn, nine, rule");
        for (int v : new int[] {MIN, -2, 10, MAX}) {
            refused("jump(" + v + ")", NONE, x -> x.jump(v));
            refused("turn(" + v + ")", NONE, x -> x.turn(v));
            refused("rule(0, " + v + ")", NONE, x -> x.rule(0, v));
        }
        refused("turn(3)", NONE, x -> x.turn(3));
        refused("rule(0, 0)", NONE, x -> x.rule(0, 0));
        refused("rule(0, 2), told already", NONE, x -> x.rule(0, 2));
        refused("rule(1, 5), told already", NONE, x -> x.rule(1, 5));
        refused("rule(1, -2)", NONE, x -> x.rule(1, -2));
        refused("rule(1, 201)", NONE, x -> x.rule(1, 201));
        refused("rule(2, 1)", NONE, x -> x.rule(2, 1));
        refused("rule(2, NONE)", NONE, x -> x.rule(2, NONE));
        refused("rule(-1, NONE)", NONE, x -> x.rule(-1, NONE));
        refused("nine(9, 1)", 0, x -> bit(x.nine(9, 1)));
        refused("nine(-1, 1)", 0, x -> bit(x.nine(-1, 1)));
        refused("nine(4, 31)", 0, x -> bit(x.nine(4, 31)));
        refused("nine(4, -1)", 0, x -> bit(x.nine(4, -1)));
    }

    private static void asked() {
        sentence("4: IN THOUGHT, nothing of it stays");
        refused("goes", 0, x -> 0 * x.goes(60, 1));
        refused("holds", NONE, x -> x.holds(3));
        refused("deals", 1, x -> x.deals(2, 1));
        refused("even(NONE)", 1, x -> x.even(NONE));
        refused("walks", 5916, x -> x.walks(8, -100, 0));
        refused("parts", 2, x -> x.parts(220, 0));
        refused("game", 2, x -> x.game(6, 0));
    }

    private static TwisterCourt crowded() {
        TwisterCourt x = full();
        for (int i = 0; i < 16; i++) {
            x.jump(9);
            x.turn(0);
            x.rule(0, i);
            x.rule(1, i);
        }
        x.days(1);
        return x;
    }

    private static void whenFull() {
        sentence("refused: what there is room for no more");
        TwisterCourt x = crowded();
        due("a thirteenth", x.person(1), NONE);
        due("a fifteenth", x.bargain(0, 1, 1), NONE);
        due("a fifteenth", x.jump(1), NONE);
        due("a seventeenth", x.turn(1), NONE);
        due("a sixth", x.rule(0, 9), NONE);
        due("a ninth", x.rule(1, 99), NONE);
        due("all behind it", allOf(x), allOf(crowded()));
    }
}
