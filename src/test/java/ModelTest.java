import java.util.ArrayDeque;
import java.util.ArrayList;
import java.util.Arrays;
import java.util.Deque;
import java.util.HashMap;
import java.util.HashSet;
import java.util.List;
import java.util.Map;
import java.util.Random;
import java.util.Set;
import java.util.function.IntBinaryOperator;

/**
 * Long runs of drawn calls on the class and on a second writing of the document beside it. The second one is as plain as
 * can be: it keeps the TEXTS as texts, reads them anew each time, copies everything, and tries everything out.
 */
public final class ModelTest {
    private static final int NONE = -1;
    private static final int RUNS = 2000;
    private static final int CALLS = 512;

    private static int wrong = 0;

    public static void main(String[] args) {
        int runs = args.length > 0 ? Integer.parseInt(args[0]) : RUNS;
        long seed = args.length > 1 ? Long.parseLong(args[1]) : 0;
        Map<String, Integer> seen = new HashMap<>();
        for (int run = 0; run < runs && wrong == 0; run++) {
            new Run(seed + run, seen).go();
        }
        checkSeen(seen, runs);
        checkNumbers(new TwisterCourt(), new Model());
        if (args.length > 2) {
            System.out.println(seen);
        }
        System.out.println(wrong == 0 ? "both agree on " + runs + " runs" : "they do not agree");
        if (wrong != 0) {
            System.exit(1);
        }
    }

    /** The drawn calls must come to what matters, or the runs prove little. */
    private static void checkSeen(Map<String, Integer> seen, int runs) {
        if (runs < 500) {
            return;
        }
        String[] due = {"law told", "twists told", "tavern told", "hears told", "fault 1", "fault 2", "fault 3",
            "holds", "slipped", "said", "blurred", "cleared blurred", "undone", "gone back", "held by days",
            "holds later", "book full", "day bound"};
        for (String what : due) {
            if (seen.getOrDefault(what, 0) == 0) {
                wrong++;
                System.out.println("never came: " + what);
            }
        }
    }

    private static void due(String call, int got, int want) {
        if (got != want && wrong++ < 3) {
            System.out.println(call + " answered " + got + ", due is " + want);
        }
    }

    /** What is asked of numbers alone, for all of them or for many. */
    private static void checkNumbers(TwisterCourt x, Model m) {
        for (int what = -1; what <= 4; what++) {
            for (int n = -1; n <= 10000; n++) {
                due("own " + n + " " + what, x.own(n, what), m.own(n, what));
            }
            for (int n = -1; n <= 1001; n++) {
                due("parts " + n + " " + what, x.parts(n, what), m.parts(n, what));
            }
            for (int n = -1; n <= 301; n++) {
                due("ant " + n + " " + what, x.ant(n, what), m.ant(n, what));
                due("apart " + n + " " + what, x.apart(n, what), m.apart(n, what));
                due("corners " + n + " " + what, x.corners(n, what), m.corners(n, what));
            }
            for (int n = -7; n < 1000100; n += n < 20000 || n > 999900 ? 1 : 137) {
                due("lasts " + n + " " + what, x.lasts(n, what), m.lasts(n, what));
            }
            for (int rn = -1; rn <= 7936; rn++) {
                due("row " + rn + " " + what, x.row(rn * 7919 & 65535, rn, what), m.row(rn * 7919 & 65535, rn, what));
            }
        }
        checkRounds(x, m);
        for (int n = -1; n <= 9; n++) {
            due("walks " + n, x.walks(n, -100, 77), m.walks(n, -100, 77));
            for (int at = -9; at <= 9 && n < 7; at++) {
                for (int y = -9; y <= 9; y++) {
                    due("walks " + n + " " + at + " " + y, x.walks(n, at, y), m.walks(n, at, y));
                }
            }
        }
    }

    private static void checkRounds(TwisterCourt x, Model m) {
        for (int w = 1; w <= 9; w++) {
            for (int t = 0; t <= 1 << w; t += w < 7 ? 1 : 3) {
                for (int v = 0; v <= 1 << w; v += w < 7 ? 1 : 5) {
                    for (int n = -2; n <= 1001; n += n < 2 ? 1 : 333) {
                        due("round " + w + " " + t + " " + v + " " + n, x.round(w, t, v, n), m.round(w, t, v, n));
                    }
                }
            }
        }
    }

    // ------------------------------------------------------------------------------------------------ the runs

    private static final class Run {
        final Random random;
        final long seed;
        final Map<String, Integer> seen;
        final TwisterCourt x = new TwisterCourt();
        final Model m = new Model();
        final List<String> done = new ArrayList<>();
        int calls = 0;

        Run(long seed, Map<String, Integer> seen) {
            this.seed = seed;
            this.random = new Random(seed * 7919 + 13);
            this.seen = seen;
        }

        void saw(String what) {
            seen.merge(what, 1, Integer::sum);
        }

        int below(int n) {
            return random.nextInt(n);
        }

        /** Mostly within, at times just beyond, seldom anything. */
        int near(int least, int most) {
            int how = below(40);
            if (how == 0) {
                return least - 1;
            }
            if (how == 1) {
                return most + 1;
            }
            if (how == 2) {
                int[] odd = {Integer.MIN_VALUE, Integer.MAX_VALUE, -100, -2, 1 << 16, 100000, random.nextInt()};
                return odd[below(odd.length)];
            }
            return least + below(Math.max(1, most - least + 1));
        }

        int due(String call, long got, long want) {
            calls++;
            done.add(call + " -> " + got);
            if (got != want && wrong++ < 3) {
                System.out.println("seed " + seed + ", call " + calls + ": " + call + " answered " + got + ", due is " + want);
                for (int i = Math.max(0, done.size() - 40); i < done.size(); i++) {
                    System.out.println("    " + done.get(i));
                }
            }
            return (int) got;
        }

        int due(String call, boolean got, boolean want) {
            return due(call, got ? 1 : 0, want ? 1 : 0);
        }

        void go() {
            int people = 2 + below(6);
            for (int i = 0; i < people; i++) {
                person();
            }
            int deals = 1 + below(8);
            for (int i = 0; i < deals; i++) {
                bargain();
            }
            if (below(30) == 0) {
                farDays();
            }
            if (below(30) == 0) {
                manySlips();
            }
            while (calls < CALLS && wrong == 0) {
                step();
            }
        }

        void manySlips() {
            feed("rolls 50; blurs 0;");
            due("text(0)", x.text(0), m.text(0));
            for (int i = 0; i < 200; i++) {
                act();
            }
            all();
        }

        void farDays() {
            for (int i = 0; i < 166; i++) {
                days(60);
            }
            days(39 + below(2));
            if (m.now.day > 9990) {
                saw("day bound");
            }
        }

        void person() {
            int v = near(0, 9);
            due("person(" + v + ")", x.person(v), m.person(v));
        }

        void bargain() {
            int n = Math.max(1, m.now.persons.size());
            int a = near(0, n - 1);
            int b = near(0, n - 1);
            int p = below(3) > 0 ? 1 + below(3) : near(1, 9);
            due("bargain(" + a + ", " + b + ", " + p + ")", x.bargain(a, b, p), m.bargain(a, b, p));
        }

        void days(int n) {
            int came = due("days(" + n + ")", x.days(n), m.days(n));
            if (came > 0) {
                saw("held by days");
            }
        }

        void step() {
            int how = below(100);
            if (how < 2) {
                person();
            } else if (how < 5) {
                bargain();
            } else if (how < 8) {
                set();
            } else if (how < 24) {
                act();
            } else if (how < 33) {
                days(below(8) > 0 ? 1 + below(3) : near(1, 60));
            } else if (how < 42) {
                text();
            } else if (how < 44) {
                tape();
            } else if (how < 50) {
                boolean undone = due("undo()", x.undo(), m.undo()) == 1;
                if (undone) {
                    saw("undone");
                    all();
                }
            } else if (how < 53) {
                image();
            } else if (how < 54) {
                int v = below(3) == 0 ? near(0, 9) : random.nextInt();
                due("state(" + v + ")", x.state(v), m.state(v));
            } else if (how < 60) {
                thinkDays();
            } else if (how < 75) {
                thinkTold();
            } else if (how < 84) {
                thinkNumbers();
            } else if (how < 86) {
                all();
            } else {
                ask();
            }
        }

        void set() {
            int what = near(0, 3);
            int who = near(0, 7);
            int v = near(0, 9);
            due("set(" + what + ", " + who + ", " + v + ")", x.set(what, who, v), m.set(what, who, v));
        }

        void act() {
            int what = below(5) > 0 ? below(2) : near(0, 4);
            int n = Math.max(1, what == 4 ? m.now.persons.size() : m.now.bargains.size());
            int which = near(0, n - 1);
            boolean wasBlurred = m.hasBargain(which) && m.now.bargains.get(which).is == 2;
            int lines = m.now.book.size();
            int good = due("act(" + what + ", " + which + ")", x.act(what, which), m.act(what, which));
            if (what == 2 && good == 1 && wasBlurred) {
                saw("cleared blurred");
            }
            for (int i = lines; i < m.now.book.size(); i++) {
                String[] names = {"said", "slipped", "holds", "blurred"};
                saw(names[m.now.book.get(i)[1]]);
            }
            if (m.now.book.size() == 150) {
                saw("book full");
            }
        }

        void feed(String s) {
            byte[] b = new byte[20];
            Arrays.fill(b, (byte) ' ');
            for (int i = 0; i < s.length(); i++) {
                b[i] = (byte) s.charAt(i);
            }
            int[] n = new int[5];
            for (int i = 0; i < 5; i++) {
                n[i] = (b[4 * i] & 255) << 24 | (b[4 * i + 1] & 255) << 16 | (b[4 * i + 2] & 255) << 8 | b[4 * i + 3] & 255;
            }
            due("feed('" + s + "')", x.feed(n[0], n[1], n[2], n[3], n[4]), m.feed(b));
        }

        void tape() {
            if (below(2) == 0) {
                feed("on 0 x".substring(0, below(6)));
            } else {
                int n = near(0, m.tape.length() + 1);
                due("end(" + n + ")", x.end(n), m.end(n));
            }
        }

        void text() {
            int k = below(20) == 0 ? near(0, 3) : below(4);
            if (below(4) > 0 && !m.tape.isEmpty()) {
                due("end(0)", x.end(0), m.end(0));
            }
            String s = new Writer(this).text(k);
            if (s.length() > 400) {
                s = s.substring(0, 400);
            }
            for (int i = 0; i < s.length(); i += 20) {
                feed(s.substring(i, Math.min(s.length(), i + 20)));
            }
            if (s.length() % 20 > 0) {
                int n = m.tape.length() - 20 + s.length() % 20;
                due("end(" + n + ")", x.end(n), m.end(n));
            }
            String whole = m.tape;
            int lines = due("text(" + k + ") of '" + whole + "'", x.text(k), m.text(k));
            due("fault(0)", x.fault(0), m.fault(0));
            due("fault(1)", x.fault(1), m.fault(1));
            if (lines > 0) {
                saw(new String[] {"law told", "twists told", "tavern told", "hears told"}[k]);
            }
            if (m.fault(0) > 0) {
                saw("fault " + m.fault(0));
            }
        }

        void image() {
            boolean taken = below(2) == 0;
            int good = due("image(" + taken + ")", x.image(taken), m.image(taken));
            if (good == 1 && !taken) {
                saw("gone back");
                all();
            }
        }

        void thinkDays() {
            int how = below(3);
            if (how == 0) {
                int n = near(1, 60);
                int what = near(0, 3);
                due("goes(" + n + ", " + what + ")", x.goes(n, what), m.goes(n, what));
            } else if (how == 1) {
                int b = near(0, Math.max(0, m.now.bargains.size() - 1));
                if (due("holds(" + b + ")", x.holds(b), m.holds(b)) > 0) {
                    saw("holds later");
                }
            } else {
                int a = near(0, Math.max(0, m.now.persons.size() - 1));
                int b = near(0, Math.max(0, m.now.persons.size() - 1));
                due("deals(" + a + ", " + b + ")", x.deals(a, b), m.deals(a, b));
            }
        }

        void thinkTold() {
            int how = below(8);
            if (how == 0) {
                int v = below(12) == 0 ? NONE : below(2) == 0 ? below(3) : near(0, 9);
                due("jump(" + v + ")", x.jump(v), m.jump(v));
            } else if (how == 1) {
                int what = near(0, 1);
                due("jumps(" + what + ")", x.jumps(what), m.jumps(what));
            } else if (how == 2) {
                int v = below(14) == 0 ? NONE : near(0, 2);
                due("turn(" + v + ")", x.turn(v), m.turn(v));
            } else if (how == 3) {
                int what = near(0, 3);
                due("turning(" + what + ")", x.turning(what), m.turning(what));
            } else if (how == 4) {
                int p = near(0, 8);
                int v = near(0, 30);
                if (below(3) > 0) {
                    v = new int[] {2, 7, 6, 9, 5, 1, 4, 3, 8}[Math.floorMod(p, 9)];
                }
                due("nine(" + p + ", " + v + ")", x.nine(p, v), m.nine(p, v));
            } else if (how == 5) {
                int s = below(2) == 0 ? NONE : below(2) == 0 ? 15 : near(0, 90);
                due("even(" + s + ")", x.even(s), m.even(s));
            } else if (how == 6) {
                int what = near(0, 1);
                int v = below(14) == 0 ? NONE : what == 0 ? near(1, 9) : below(2) == 0 ? near(0, 20) : near(0, 200);
                due("rule(" + what + ", " + v + ")", x.rule(what, v), m.rule(what, v));
            } else {
                int n = below(2) == 0 ? near(0, 25) : near(0, 200);
                int what = near(0, 1);
                due("game(" + n + ", " + what + ")", x.game(n, what), m.game(n, what));
            }
        }

        void thinkNumbers() {
            int how = below(9);
            int what = near(0, 1);
            if (how == 0) {
                int n = below(8) == 0 ? near(0, 8) : near(0, 5);
                int at = below(3) == 0 ? -100 : near(-8, 8) / (below(3) + 1);
                int y = near(-8, 8) / (below(3) + 1);
                due("walks(" + n + ", " + at + ", " + y + ")", x.walks(n, at, y), m.walks(n, at, y));
            } else if (how == 1) {
                int d = near(2, 50);
                due("apart(" + d + ", " + what + ")", x.apart(d, what), m.apart(d, what));
            } else if (how == 2) {
                int n = near(1, 200);
                due("corners(" + n + ", " + what + ")", x.corners(n, what), m.corners(n, what));
            } else if (how == 3) {
                int n = near(1, 999);
                due("parts(" + n + ", " + what + ")", x.parts(n, what), m.parts(n, what));
            } else if (how == 4) {
                int n = near(0, 999999);
                int w = near(0, 3);
                due("lasts(" + n + ", " + w + ")", x.lasts(n, w), m.lasts(n, w));
            } else if (how == 5) {
                int n = near(0, 300);
                due("ant(" + n + ", " + what + ")", x.ant(n, what), m.ant(n, what));
            } else if (how == 6) {
                int v = near(0, 65535);
                int rn = near(0, 7935);
                due("row(" + v + ", " + rn + ", " + what + ")", x.row(v, rn, what), m.row(v, rn, what));
            } else if (how == 7) {
                int n = near(0, 9999);
                due("own(" + n + ", " + what + ")", x.own(n, what), m.own(n, what));
            } else {
                int w = near(2, 8);
                int most = w >= 2 && w <= 8 ? (1 << w) - 1 : 3;
                int t = near(1, most);
                int v = near(1, most);
                int n = below(2) == 0 ? NONE : near(0, 1000);
                due("round(" + w + ", " + t + ", " + v + ", " + n + ")", x.round(w, t, v, n), m.round(w, t, v, n));
            }
        }

        void ask() {
            int how = below(5);
            if (how == 0) {
                int p = near(0, Math.max(0, m.now.persons.size() - 1));
                int what = near(0, 4);
                due("of(" + p + ", " + what + ")", x.of(p, what), m.of(p, what));
            } else if (how <= 2) {
                int b = near(0, Math.max(0, m.now.bargains.size() - 1));
                int what = near(0, 50);
                due("deal(" + b + ", " + what + ")", x.deal(b, what), m.deal(b, what));
            } else if (how == 3) {
                int i = near(0, Math.max(0, m.now.book.size() - 1));
                int what = near(0, 3);
                due("book(" + i + ", " + what + ")", x.book(i, what), m.book(i, what));
            } else {
                int what = near(0, 13);
                due("look(" + what + ")", x.look(what), m.look(what));
            }
        }

        /**
         * All that can be asked without a trace. It does not count as calls: what an object answers beyond 512 is free, but
         * this class has no such end, and a run must come to what takes many calls.
         */
        void all() {
            int before = calls;
            for (int what = 0; what <= 13; what++) {
                due("look(" + what + ")", x.look(what), m.look(what));
            }
            for (int p = 0; p < m.now.persons.size(); p++) {
                for (int what = 0; what <= 4; what++) {
                    due("of(" + p + ", " + what + ")", x.of(p, what), m.of(p, what));
                }
            }
            for (int b = 0; b < m.now.bargains.size(); b++) {
                for (int what = 0; what <= 50; what++) {
                    due("deal(" + b + ", " + what + ")", x.deal(b, what), m.deal(b, what));
                }
            }
            for (int i = Math.max(0, m.now.book.size() - 5); i <= m.now.book.size(); i++) {
                for (int what = 0; what <= 3; what++) {
                    due("book(" + i + ", " + what + ")", x.book(i, what), m.book(i, what));
                }
            }
            for (int what = 0; what <= 3; what++) {
                due("turning(" + what + ")", x.turning(what), m.turning(what));
                due("jumps(" + what + ")", x.jumps(what), m.jumps(what));
                due("game(50, " + what + ")", x.game(50, what), m.game(50, what));
            }
            due("even(15)", x.even(15), m.even(15));
            due("fault(0)", x.fault(0), m.fault(0));
            due("fault(1)", x.fault(1), m.fault(1));
            calls = before;
        }
    }

    // ------------------------------------------------------------------------------------------------ drawn texts

    private static final class Writer {
        final Run run;
        final StringBuilder out = new StringBuilder();

        Writer(Run run) {
            this.run = run;
        }

        String text(int k) {
            int lines = run.below(12) == 0 ? 17 : run.below(7);
            for (int i = 0; i < lines && out.length() < 380; i++) {
                if (k == 0) {
                    lawLine(lines == 17);
                } else if (k == 1) {
                    put("on");
                    day();
                    put("bargain");
                    number(bargains());
                    put(run.below(2) == 0 ? "first" : "second");
                } else if (k == 2) {
                    tavernLine();
                } else {
                    put("bargain");
                    number(bargains());
                    put("by");
                    number(persons());
                }
                out.append(';');
            }
            return run.below(3) == 0 ? spoiled(out.toString()) : out.toString();
        }

        int bargains() {
            return Math.max(1, run.m.now.bargains.size());
        }

        int persons() {
            return Math.max(1, run.m.now.persons.size());
        }

        void day() {
            int day = run.m.now.day + run.below(4);
            int how = run.below(60);
            put(how == 0 ? "999" : how == 1 ? "1000" : String.valueOf(day));
        }

        void number(int n) {
            put(String.valueOf(run.below(25) == 0 ? n + run.below(3) : run.below(n)));
        }

        void put(String token) {
            char last = out.length() == 0 ? ';' : out.charAt(out.length() - 1);
            boolean bothWords = Character.isLetter(last) && Character.isLetter(token.charAt(0));
            boolean bothDigits = Character.isDigit(last) && Character.isDigit(token.charAt(0));
            if (bothWords || bothDigits || run.below(8) == 0) {
                out.append(run.below(15) == 0 ? '\n' : ' ');
            }
            out.append(token);
        }

        void tavernLine() {
            put("on");
            day();
            int how = run.below(4);
            put(new String[] {"ale", "noise", "clear", "lips"}[how]);
            if (how == 2) {
                number(bargains());
            } else if (how == 3) {
                number(persons());
            }
            if (how != 2) {
                put(String.valueOf(run.below(30) == 0 ? 10 : run.below(10)));
            }
        }

        void lawLine(boolean isShort) {
            int how = run.below(3);
            put(new String[] {"rolls", "blurs", "costs"}[how]);
            if (isShort) {
                put(String.valueOf(run.below(10)));
                return;
            }
            if (how == 0 && run.below(2) == 0) {
                put(String.valueOf(300 + run.below(900)));
                put(run.below(2) == 0 ? "+" : "-");
            }
            if (how == 1 && run.below(3) > 0) {
                put(String.valueOf(run.below(4)));
            } else {
                sum();
            }
            if (run.below(3) > 0) {
                put("when");
                either(0);
            }
        }

        void sum() {
            product();
            for (int i = run.below(3); i > 0; i--) {
                put(run.below(2) == 0 ? "+" : "-");
                product();
            }
        }

        void product() {
            unit();
            for (int i = run.below(5) / 2; i > 0; i--) {
                if (run.below(2) == 0) {
                    put("*");
                    unit();
                } else {
                    put("/");
                    put(String.valueOf(run.below(40) == 0 ? 0 : 1 + run.below(20)));
                }
            }
        }

        void unit() {
            String[] names = {"lips", "phrase", "phrases", "clear", "ale", "noise", "hears", "owes", "held", "day"};
            if (run.below(3) == 0) {
                put(String.valueOf(run.below(4) == 0 ? run.below(10000) : run.below(10)));
            } else {
                put(names[run.below(names.length)]);
            }
        }

        void either(int depth) {
            all(depth);
            for (int i = run.below(5) / 3; i > 0; i--) {
                put("or");
                all(depth);
            }
        }

        void all(int depth) {
            test(depth);
            for (int i = run.below(5) / 3; i > 0; i--) {
                put("and");
                test(depth);
            }
        }

        void test(int depth) {
            int how = run.below(6);
            if (how == 0) {
                int nots = run.below(10) == 0 ? 7 + run.below(4) : 1;
                for (int i = 0; i < nots; i++) {
                    put("not");
                }
                test(depth + 1);
            } else if (how == 1 && depth < 12) {
                int opened = run.below(10) == 0 ? 7 + run.below(4) : 1;
                for (int i = 0; i < opened; i++) {
                    put("(");
                }
                either(depth + 1);
                for (int i = 0; i < opened; i++) {
                    put(")");
                }
            } else {
                sum();
                put(new String[] {"<", "=", ">"}[run.below(3)]);
                sum();
            }
        }

        String spoiled(String s) {
            if (s.isEmpty()) {
                return s;
            }
            StringBuilder b = new StringBuilder(s);
            int at = run.below(b.length());
            int how = run.below(7);
            String signs = ";+-*/()<=>aZ09 \n\t.,\u00e9\u0000";
            if (how == 0) {
                b.deleteCharAt(at);
            } else if (how == 1) {
                b.insert(at, signs.charAt(run.below(signs.length())));
            } else if (how == 2) {
                b.setCharAt(at, signs.charAt(run.below(signs.length())));
            } else if (how == 3) {
                b.setLength(at);
            } else if (how == 4) {
                b.setCharAt(at, Character.toUpperCase(b.charAt(at)));
            } else if (how == 5) {
                b.append("  ");
            } else {
                String[] words = {" when ", " or ", " and ", " not ", " rolls ", " on ", " by ", " first ", " 12345 ", " 00000 "};
                b.insert(at, words[run.below(words.length)]);
            }
            return b.toString();
        }
    }

    // ------------------------------------------------------------------------------------------------ the model

    private static final class Person {
        int lips;
        int held;
        int owes;

        Person copy() {
            Person p = new Person();
            p.lips = lips;
            p.held = held;
            p.owes = owes;
            return p;
        }
    }

    private static final class Bargain {
        int first;
        int second;
        int phrases;
        int clear = 9;
        boolean saidFirst;
        boolean saidSecond;
        int is;

        Bargain copy() {
            Bargain b = new Bargain();
            b.first = first;
            b.second = second;
            b.phrases = phrases;
            b.clear = clear;
            b.saidFirst = saidFirst;
            b.saidSecond = saidSecond;
            b.is = is;
            return b;
        }
    }

    private static final class World {
        List<Person> persons = new ArrayList<>();
        List<Bargain> bargains = new ArrayList<>();
        List<int[]> book = new ArrayList<>();
        int ale;
        int noise;
        int day;
        int state;

        World copy() {
            World w = new World();
            persons.forEach(p -> w.persons.add(p.copy()));
            bargains.forEach(b -> w.bargains.add(b.copy()));
            w.book.addAll(book);
            w.ale = ale;
            w.noise = noise;
            w.day = day;
            w.state = state;
            return w;
        }
    }

    private static final class Told {
        String[] texts = {"", "", "", ""};
        List<Integer> jumps = new ArrayList<>();
        List<Integer> turns = new ArrayList<>();
        int[] nine = new int[9];
        List<Integer> steps = new ArrayList<>();
        List<Integer> barred = new ArrayList<>();

        Told copy() {
            Told t = new Told();
            t.texts = texts.clone();
            t.jumps.addAll(jumps);
            t.turns.addAll(turns);
            t.nine = nine.clone();
            t.steps.addAll(steps);
            t.barred.addAll(barred);
            return t;
        }
    }

    private static final class Fault extends RuntimeException {
        private static final long serialVersionUID = 1L;
        final int what;
        final int place;

        Fault(int what, int place) {
            super(null, null, false, false);
            this.what = what;
            this.place = place;
        }
    }

    /** A token: its text ("" for the end), its place. */
    private record Token(String s, int place) {
        boolean isNumber() {
            return s.matches("[0-9]{1,4}");
        }

        int number() {
            return Integer.parseInt(s);
        }
    }

    /** One line of a text that was read: its words and numbers; for THE LAW its two halves as trees. */
    private record Line(List<Token> tokens, String word, Tree e, Tree b) {
    }

    private interface Tree {
        long value(Map<String, Integer> names);
    }

    private static final class Parser {
        final List<Token> tokens = new ArrayList<>();
        final Model model;
        int at = 0;
        int opened = 0;

        Parser(String text, Model model) {
            this.model = model;
            java.util.regex.Matcher m =
                java.util.regex.Pattern.compile("[A-Za-z]+|[0-9]+|[^ \n]", java.util.regex.Pattern.DOTALL).matcher(text);
            while (m.find()) {
                tokens.add(new Token(m.group(), m.start()));
            }
            tokens.add(new Token("", text.length()));
        }

        Token next() {
            return tokens.get(at);
        }

        Fault fault(int what) {
            return new Fault(what, next().place());
        }

        Token take(String... any) {
            for (String s : any) {
                if (next().s().equals(s)) {
                    return tokens.get(at++);
                }
            }
            throw fault(1);
        }

        boolean has(String... any) {
            return Arrays.asList(any).contains(next().s());
        }

        int number(java.util.function.IntPredicate isGood) {
            if (!next().isNumber()) {
                throw fault(1);
            }
            if (!isGood.test(next().number())) {
                throw fault(2);
            }
            return tokens.get(at++).number();
        }

        List<Line> read(int k) {
            List<Line> lines = new ArrayList<>();
            while (!has("")) {
                String[] heads = k == 0 ? new String[] {"rolls", "blurs", "costs"} : new String[] {k == 3 ? "bargain" : "on"};
                if (has(heads) && lines.size() == 16) {
                    throw fault(3);
                }
                int from = at;
                String word = take(heads).s();
                Tree e = null;
                Tree b = null;
                if (k == 0) {
                    e = sum();
                    if (has("when")) {
                        take("when");
                        b = either();
                    }
                } else {
                    simple(k);
                }
                take(";");
                lines.add(new Line(new ArrayList<>(tokens.subList(from, at)), word, e, b));
            }
            return lines;
        }

        void simple(int k) {
            int persons = model.now.persons.size();
            int bargains = model.now.bargains.size();
            if (k == 3) {
                int b = number(n -> n < bargains);
                take("by");
                number(n -> n < persons && model.now.bargains.get(b).first != n && model.now.bargains.get(b).second != n);
                return;
            }
            number(n -> n <= 999);
            if (k == 1) {
                take("bargain");
                number(n -> n < bargains);
                take("first", "second");
                return;
            }
            String kind = take("ale", "noise", "clear", "lips").s();
            if (kind.equals("clear")) {
                number(n -> n < bargains);
                return;
            }
            if (kind.equals("lips")) {
                number(n -> n < persons);
            }
            number(n -> n <= 9);
        }

        Tree either() {
            Tree a = all();
            while (has("or")) {
                take("or");
                Tree b = all();
                Tree was = a;
                a = n -> was.value(n) != 0 || b.value(n) != 0 ? 1 : 0;
            }
            return a;
        }

        Tree all() {
            Tree a = test();
            while (has("and")) {
                take("and");
                Tree b = test();
                Tree was = a;
                a = n -> was.value(n) != 0 && b.value(n) != 0 ? 1 : 0;
            }
            return a;
        }

        Tree test() {
            if (has("not", "(")) {
                if (opened == 8) {
                    throw fault(3);
                }
                opened++;
                Tree t;
                if (take("not", "(").s().equals("not")) {
                    Tree c = test();
                    t = n -> c.value(n) == 0 ? 1 : 0;
                } else {
                    t = either();
                    take(")");
                }
                opened--;
                return t;
            }
            Tree a = sum();
            String how = take("<", "=", ">").s();
            Tree b = sum();
            return n -> {
                int order = Integer.compare((int) a.value(n), (int) b.value(n));
                return (how.equals("<") ? order < 0 : how.equals("=") ? order == 0 : order > 0) ? 1 : 0;
            };
        }

        Tree sum() {
            Tree a = product();
            while (has("+", "-")) {
                boolean isPlus = take("+", "-").s().equals("+");
                Tree b = product();
                a = join(a, b, isPlus ? (p, q) -> p + q : (p, q) -> p - q);
            }
            return a;
        }

        Tree product() {
            Tree a = unit();
            while (has("*", "/")) {
                if (take("*", "/").s().equals("*")) {
                    a = join(a, unit(), (p, q) -> p * q);
                } else {
                    int d = number(n -> n != 0);
                    a = join(a, n -> d, (p, q) -> p / q);
                }
            }
            return a;
        }

        static Tree join(Tree a, Tree b, IntBinaryOperator how) {
            return n -> how.applyAsInt((int) a.value(n), (int) b.value(n));
        }

        Tree unit() {
            if (next().isNumber()) {
                int v = number(n -> true);
                return n -> v;
            }
            String name = take("lips", "phrase", "phrases", "clear", "ale", "noise", "hears", "owes", "held", "day").s();
            return n -> n.get(name);
        }
    }

    private static final class Model {
        World now = new World();
        Told told = new Told();
        World keptNow;
        Told keptTold;
        Deque<World> past = new ArrayDeque<>();
        String tape = "";
        int fault = 0;
        int faultPlace = NONE;
        final Map<String, List<Line>> read = new HashMap<>();

        boolean hasPerson(int p) {
            return p >= 0 && p < now.persons.size();
        }

        boolean hasBargain(int b) {
            return b >= 0 && b < now.bargains.size();
        }

        static boolean in(int v, int least, int most) {
            return least <= v && v <= most;
        }

        /* Texts were read when they were told; they are read again here from the text alone. */
        List<Line> lines(int k) {
            return read.computeIfAbsent(k + told.texts[k], t -> new Parser(told.texts[k], this).read(k));
        }

        int state(int v) {
            int was = now.state;
            now.state = v;
            past.clear();
            return was;
        }

        int person(int lips) {
            if (!in(lips, 0, 9) || now.persons.size() == 12) {
                return NONE;
            }
            Person p = new Person();
            p.lips = lips;
            now.persons.add(p);
            past.clear();
            return now.persons.size() - 1;
        }

        int bargain(int first, int second, int phrases) {
            if (!hasPerson(first) || !hasPerson(second) || first == second || !in(phrases, 1, 9)
                || now.bargains.size() == 14) {
                return NONE;
            }
            Bargain b = new Bargain();
            b.first = first;
            b.second = second;
            b.phrases = phrases;
            now.bargains.add(b);
            past.clear();
            return now.bargains.size() - 1;
        }

        boolean set(int what, int who, int v) {
            boolean can = switch (what) {
                case 0 -> hasPerson(who) && in(v, 0, 9);
                case 1 -> hasBargain(who) && now.bargains.get(who).is == 0 && in(v, 1, 9);
                case 2, 3 -> in(v, 0, 9);
                default -> false;
            };
            if (!can) {
                return false;
            }
            switch (what) {
                case 0 -> now.persons.get(who).lips = v;
                case 1 -> now.bargains.get(who).clear = v;
                case 2 -> now.ale = v;
                default -> now.noise = v;
            }
            past.clear();
            return true;
        }

        void keep() {
            past.addLast(now.copy());
            if (past.size() > 6) {
                past.removeFirst();
            }
        }

        boolean act(int what, int which) {
            if (what == 4) {
                if (!hasPerson(which) || now.persons.get(which).owes == 0) {
                    return false;
                }
                keep();
                now.persons.get(which).owes--;
                return true;
            }
            if (!in(what, 0, 3) || !hasBargain(which)) {
                return false;
            }
            Bargain b = now.bargains.get(which);
            if (what <= 1) {
                if (b.is != 0 || (what == 0 ? b.saidFirst : b.saidSecond)) {
                    return false;
                }
                keep();
                say(now, which, what == 0, true);
                return true;
            }
            if (what == 2) {
                if (b.is == 1 || b.clear == 9) {
                    return false;
                }
                keep();
                b.clear = 9;
                b.is = 0;
                return true;
            }
            if (b.is != 0) {
                return false;
            }
            keep();
            blur(now, which, true);
            return true;
        }

        void write(World w, boolean real, int what, int which, int much) {
            if (real && w.book.size() < 150) {
                w.book.add(new int[] {w.day, what, which, much});
            }
        }

        Set<Integer> hearers(int b) {
            Set<Integer> s = new HashSet<>();
            for (Line l : lines(3)) {
                if (l.tokens().get(1).number() == b) {
                    s.add(l.tokens().get(3).number());
                }
            }
            return s;
        }

        int law(World w, String word, int which, int who, int phrase) {
            Bargain b = w.bargains.get(which);
            Map<String, Integer> names = new HashMap<>();
            names.put("lips", who == NONE ? 0 : w.persons.get(who).lips);
            names.put("owes", who == NONE ? 0 : w.persons.get(who).owes);
            names.put("held", who == NONE ? 0 : w.persons.get(who).held);
            names.put("phrase", phrase);
            names.put("phrases", b.phrases);
            names.put("clear", b.clear);
            names.put("ale", w.ale);
            names.put("noise", w.noise);
            names.put("hears", hearers(which).size());
            names.put("day", w.day);
            int v = switch (word) {
                case "rolls" -> 700 + 50 * names.get("lips") - 30 * w.ale;
                case "blurs" -> w.ale / 2 + w.noise / 2;
                default -> phrase;
            };
            for (Line l : lines(0)) {
                if (l.word().equals(word) && (l.b() == null || l.b().value(names) != 0)) {
                    v = (int) l.e().value(names);
                    break;
                }
            }
            int most = word.equals("rolls") ? 1000 : 9;
            return v < 0 ? 0 : v > most ? most : v;
        }

        boolean say(World w, int which, boolean isFirst, boolean real) {
            Bargain b = w.bargains.get(which);
            if (b.is != 0 || (isFirst ? b.saidFirst : b.saidSecond)) {
                return false;
            }
            int who = isFirst ? b.first : b.second;
            for (int q = 1; q <= b.phrases; q++) {
                int rolls = law(w, "rolls", which, who, q);
                boolean off = rolls >= 500;
                if (real) {
                    off = false;
                    if (rolls > 0) {
                        w.state = w.state * 1664525 + 1013904223;
                        long high = (w.state & 0xffffffffL) / 256;
                        off = high % 1000 < rolls;
                    }
                }
                if (!off) {
                    int costs = law(w, "costs", which, who, q);
                    w.persons.get(who).owes += costs;
                    write(w, real, 1, which, q);
                    return false;
                }
            }
            if (isFirst) {
                b.saidFirst = true;
            } else {
                b.saidSecond = true;
            }
            write(w, real, 0, which, who);
            if (b.saidFirst && b.saidSecond) {
                b.is = 1;
                w.persons.get(b.first).held++;
                w.persons.get(b.second).held++;
                write(w, real, 2, which, b.phrases);
                return true;
            }
            return false;
        }

        void blur(World w, int which, boolean real) {
            Bargain b = w.bargains.get(which);
            write(w, real, 3, which, (b.saidFirst ? 1 : 0) + (b.saidSecond ? 1 : 0));
            b.clear = 0;
            b.is = 2;
            b.saidFirst = false;
            b.saidSecond = false;
        }

        int day(World w, boolean real) {
            for (Line l : lines(2)) {
                List<Token> t = l.tokens();
                if (t.get(1).number() != w.day) {
                    continue;
                }
                int n = t.get(3).number();
                switch (t.get(2).s()) {
                    case "ale" -> w.ale = n;
                    case "noise" -> w.noise = n;
                    case "lips" -> w.persons.get(n).lips = t.get(4).number();
                    default -> {
                        Bargain b = w.bargains.get(n);
                        if (b.is != 1) {
                            b.clear = 9;
                            b.is = 0;
                        }
                    }
                }
            }
            int came = 0;
            for (Line l : lines(1)) {
                List<Token> t = l.tokens();
                if (t.get(1).number() == w.day && say(w, t.get(3).number(), t.get(4).s().equals("first"), real)) {
                    came++;
                }
            }
            for (int i = 0; i < w.bargains.size(); i++) {
                Bargain b = w.bargains.get(i);
                if (b.is == 0) {
                    b.clear = Math.max(0, b.clear - law(w, "blurs", i, NONE, 0));
                    if (b.clear == 0) {
                        blur(w, i, real);
                    }
                }
            }
            w.day++;
            return came;
        }

        int days(int n) {
            if (!in(n, 1, 60) || now.day + n > 9999) {
                return NONE;
            }
            int came = 0;
            for (int i = 0; i < n; i++) {
                keep();
                came += day(now, true);
            }
            return came;
        }

        int feed(byte[] twenty) {
            if (tape.length() > 380) {
                return NONE;
            }
            StringBuilder b = new StringBuilder(tape);
            for (byte c : twenty) {
                b.append((char) (c & 255));
            }
            tape = b.toString();
            return tape.length();
        }

        boolean end(int n) {
            if (!in(n, 0, tape.length())) {
                return false;
            }
            tape = tape.substring(0, n);
            return true;
        }

        int text(int k) {
            String s = tape;
            tape = "";
            fault = 0;
            faultPlace = NONE;
            if (!in(k, 0, 3)) {
                return NONE;
            }
            try {
                int lines = new Parser(s, this).read(k).size();
                told.texts[k] = s;
                if (k == 1 || k == 2) {
                    past.clear();
                }
                return lines;
            } catch (Fault f) {
                fault = f.what;
                faultPlace = f.place;
                return NONE;
            }
        }

        int fault(int what) {
            return what == 0 ? fault : what == 1 ? faultPlace : NONE;
        }

        int of(int p, int what) {
            if (!hasPerson(p) || !in(what, 0, 4)) {
                return NONE;
            }
            int his = 0;
            int heard = 0;
            for (int b = 0; b < now.bargains.size(); b++) {
                his += now.bargains.get(b).first == p || now.bargains.get(b).second == p ? 1 << b : 0;
                heard += hearers(b).contains(p) ? 1 << b : 0;
            }
            Person q = now.persons.get(p);
            return new int[] {q.lips, q.held, q.owes, his, heard}[what];
        }

        int deal(int which, int what) {
            if (!hasBargain(which)) {
                return NONE;
            }
            Bargain b = now.bargains.get(which);
            if (in(what, 0, 8)) {
                return new int[] {b.first, b.second, b.phrases, b.clear, b.saidFirst ? 1 : 0, b.saidSecond ? 1 : 0, b.is,
                    law(now, "blurs", which, NONE, 0), hearers(which).size()}[what];
            }
            for (int q = 1; q <= b.phrases; q++) {
                if (what == 10 + q) {
                    return law(now, "rolls", which, b.first, q);
                }
                if (what == 20 + q) {
                    return law(now, "rolls", which, b.second, q);
                }
                if (what == 30 + q) {
                    return law(now, "costs", which, b.first, q);
                }
                if (what == 40 + q) {
                    return law(now, "costs", which, b.second, q);
                }
            }
            return NONE;
        }

        int book(int i, int what) {
            return in(i, 0, now.book.size() - 1) && in(what, 0, 3) ? now.book.get(i)[what] : NONE;
        }

        int goes(int n, int what) {
            if (!in(n, 1, 60) || !in(what, 0, 3)) {
                return NONE;
            }
            World w = now.copy();
            for (int i = 0; i < n; i++) {
                day(w, false);
            }
            int answer = 0;
            for (Bargain b : w.bargains) {
                answer += what == 0 && b.is == 1 ? 1 : what == 2 && b.is == 2 ? 1 : what == 3 ? b.clear : 0;
            }
            for (Person p : w.persons) {
                answer += what == 1 ? p.owes : 0;
            }
            return answer;
        }

        int holds(int which) {
            if (!hasBargain(which)) {
                return NONE;
            }
            World w = now.copy();
            for (int i = 0; i <= 60; i++) {
                if (w.bargains.get(which).is == 1) {
                    return i;
                }
                day(w, false);
            }
            return NONE;
        }

        int deals(int a, int b) {
            if (!hasPerson(a) || !hasPerson(b) || a == b) {
                return NONE;
            }
            return (int) now.bargains.stream()
                .filter(d -> d.is == 1 && Set.of(a, b).equals(Set.of(d.first, d.second))).count();
        }

        int jump(int v) {
            if (v == NONE) {
                told.jumps.clear();
                return 0;
            }
            if (!in(v, 0, 9) || told.jumps.size() == 14) {
                return NONE;
            }
            told.jumps.add(v);
            return told.jumps.size();
        }

        int jumps(int what) {
            if (!in(what, 0, 1) || told.jumps.isEmpty()) {
                return NONE;
            }
            Set<Integer> there = new HashSet<>(Set.of(0));
            int last = told.jumps.size() - 1;
            for (int few = 0; few <= 14; few++) {
                if (what == 0 && there.contains(last)) {
                    return few;
                }
                Set<Integer> more = new HashSet<>(there);
                for (int p : there) {
                    for (int d = 1; d <= told.jumps.get(p) && p + d <= last; d++) {
                        more.add(p + d);
                    }
                }
                there = more;
            }
            return what == 0 ? NONE : there.stream().max(Integer::compare).get();
        }

        int walks(int n, int x, int y) {
            if (!in(n, 0, 8) || x != -100 && (!in(x, -8, 8) || !in(y, -8, 8))) {
                return NONE;
            }
            return walk(new ArrayList<>(List.of(List.of(0, 0))), n, x == -100 ? null : List.of(x, y));
        }

        int walk(List<List<Integer>> path, int left, List<Integer> goal) {
            List<Integer> here = path.get(path.size() - 1);
            if (left == 0) {
                return goal == null || here.equals(goal) ? 1 : 0;
            }
            int ways = 0;
            for (int[] d : new int[][] {{1, 0}, {-1, 0}, {0, 1}, {0, -1}}) {
                List<Integer> to = List.of(here.get(0) + d[0], here.get(1) + d[1]);
                if (!path.contains(to)) {
                    path.add(to);
                    ways += walk(path, left - 1, goal);
                    path.remove(path.size() - 1);
                }
            }
            return ways;
        }

        int apart(int d, int what) {
            if (!in(d, 2, 50) || !in(what, 0, 1)) {
                return NONE;
            }
            for (long y = 1; y < 10000; y++) {
                long x = Math.round(Math.sqrt(d * y * y + 1));
                if (x > 1 && x * x == d * y * y + 1) {
                    return (int) (what == 0 ? x : y);
                }
            }
            return NONE;
        }

        int corners(int n, int what) {
            if (!in(n, 1, 200) || !in(what, 0, 1)) {
                return NONE;
            }
            int those = 0;
            for (int c = 1; c <= n; c++) {
                for (int a = 1; a < c; a++) {
                    int b = (int) Math.round(Math.sqrt(c * c - a * a));
                    if (a <= b && a * a + b * b == c * c && (what == 0 || a + b + c == n)) {
                        those++;
                    }
                }
            }
            return those;
        }

        int parts(int n, int what) {
            if (!in(n, 1, 999) || !in(what, 0, 1)) {
                return NONE;
            }
            List<Integer> was = new ArrayList<>(List.of(n));
            while (true) {
                int is = was.get(was.size() - 1);
                int sum = 0;
                for (int d = 1; d <= is / 2; d++) {
                    sum += is % d == 0 ? d : 0;
                }
                if (sum == 0 || was.contains(sum) || sum > 9999) {
                    return what == 0 ? was.size() : sum;
                }
                was.add(sum);
            }
        }

        int lasts(int n, int what) {
            if (!in(n, 0, 999999) || !in(what, 0, 3)) {
                return NONE;
            }
            String s = String.valueOf(n);
            int times = 0;
            while (s.length() > 1) {
                int sum = s.chars().map(c -> c - '0').sum();
                int product = s.chars().map(c -> c - '0').reduce(1, (a, b) -> a * b);
                s = String.valueOf(what < 2 ? sum : product);
                times++;
            }
            return what % 2 == 0 ? times : Integer.parseInt(s);
        }

        int turn(int v) {
            if (v == NONE) {
                told.turns.clear();
                return 0;
            }
            if (!in(v, 0, 2) || told.turns.size() == 16) {
                return NONE;
            }
            told.turns.add(v);
            return told.turns.size();
        }

        int turning(int what) {
            if (!in(what, 0, 3)) {
                return -10000;
            }
            int[] dx = {1, 0, -1, 0};
            int[] dy = {0, 1, 0, -1};
            int to = 0;
            List<List<Integer>> path = new ArrayList<>(List.of(List.of(0, 0)));
            for (int t : told.turns) {
                if (t == 0) {
                    List<Integer> p = path.get(path.size() - 1);
                    path.add(List.of(p.get(0) + dx[to], p.get(1) + dy[to]));
                } else {
                    to = (to + (t == 1 ? 1 : 3)) % 4;
                }
            }
            List<Integer> end = path.get(path.size() - 1);
            if (what < 2) {
                return end.get(what);
            }
            if (what == 2) {
                return new HashSet<>(path).size();
            }
            if (!end.equals(List.of(0, 0))) {
                return -1000;
            }
            // the field as what lies under each step along x: to the left it counts, to the right it is taken away
            int field = 0;
            for (int i = 1; i < path.size(); i++) {
                field += (path.get(i - 1).get(0) - path.get(i).get(0)) * path.get(i).get(1);
            }
            return 2 * field;
        }

        int ant(int n, int what) {
            if (!in(n, 0, 300) || !in(what, 0, 1)) {
                return NONE;
            }
            Set<Integer> black = new HashSet<>();
            int[] dx = {0, 1, 0, -1};
            int[] dy = {-1, 0, 1, 0};
            int x = 3;
            int y = 3;
            int to = 0;
            for (int i = 0; i < n; i++) {
                int here = 8 * y + x;
                if (black.remove(here)) {
                    to = (to + 3) % 4;
                } else {
                    black.add(here);
                    to = (to + 1) % 4;
                }
                x = (x + dx[to] + 8) % 8;
                y = (y + dy[to] + 8) % 8;
            }
            return what == 0 ? 8 * y + x : black.size();
        }

        int row(int v, int rn, int what) {
            if (!in(v, 0, 65535) || rn < 0 || rn / 256 > 30 || !in(what, 0, 1)) {
                return NONE;
            }
            boolean[] bits = new boolean[16];
            for (int i = 0; i < 16; i++) {
                bits[i] = (v & 1 << i) != 0;
            }
            for (int t = rn / 256; t > 0; t--) {
                boolean[] next = new boolean[16];
                for (int i = 0; i < 16; i++) {
                    int a = bits[i == 15 ? 0 : i + 1] ? 4 : 0;
                    int b = bits[i] ? 2 : 0;
                    int c = bits[i == 0 ? 15 : i - 1] ? 1 : 0;
                    next[i] = (rn & 1 << a + b + c) != 0;
                }
                bits = next;
            }
            int is = 0;
            int count = 0;
            for (int i = 0; i < 16; i++) {
                is += bits[i] ? 1 << i : 0;
                count += bits[i] ? 1 : 0;
            }
            return what == 0 ? is : count;
        }

        int own(int n, int what) {
            if (!in(n, 0, 9999) || !in(what, 0, 1)) {
                return NONE;
            }
            int is = n;
            int greatest = n;
            int times = 0;
            while (is != 6174 && times < 100) {
                char[] digits = String.format("%04d", is).toCharArray();
                Arrays.sort(digits);
                int up = Integer.parseInt(new String(digits));
                int down = Integer.parseInt(new StringBuilder(new String(digits)).reverse().toString());
                is = down - up;
                greatest = Math.max(greatest, is);
                times++;
            }
            return what == 1 ? greatest : is == 6174 ? times : NONE;
        }

        int round(int w, int t, int v, int n) {
            if (!in(w, 2, 8) || !in(t, 1, (1 << w) - 1) || !in(v, 1, (1 << w) - 1) || !in(n, -1, 1000)) {
                return NONE;
            }
            int is = v;
            for (int i = 0; i < (n == NONE ? 1000 : n); i++) {
                int odd = 0;
                for (int bit = 0; bit < w; bit++) {
                    odd ^= (is & t) >> bit & 1;
                }
                is = is / 2 + (odd == 1 ? 1 << w - 1 : 0);
                if (n == NONE && is == v) {
                    return i + 1;
                }
            }
            return n == NONE ? NONE : is;
        }

        boolean nine(int place, int v) {
            if (!in(place, 0, 8) || !in(v, 0, 30)) {
                return false;
            }
            told.nine[place] = v;
            return true;
        }

        static List<Integer> sums(int[] n) {
            List<Integer> s = new ArrayList<>();
            for (int i = 0; i < 3; i++) {
                s.add(n[3 * i] + n[3 * i + 1] + n[3 * i + 2]);
                s.add(n[i] + n[i + 3] + n[i + 6]);
            }
            s.add(n[0] + n[4] + n[8]);
            s.add(n[2] + n[4] + n[6]);
            return s;
        }

        int even(int s) {
            if (!in(s, -1, 90)) {
                return NONE;
            }
            if (s >= 0) {
                return (int) sums(told.nine).stream().filter(v -> v == s).count();
            }
            int ways = 0;
            for (int p = 0; p < 9; p++) {
                for (int v = 0; v <= 30; v++) {
                    int[] n = told.nine.clone();
                    n[p] = v;
                    ways += v != told.nine[p] && new HashSet<>(sums(n)).size() == 1 ? 1 : 0;
                }
            }
            return ways;
        }

        int rule(int what, int v) {
            if (!in(what, 0, 1)) {
                return NONE;
            }
            List<Integer> l = what == 0 ? told.steps : told.barred;
            if (v == NONE) {
                l.clear();
                return 0;
            }
            if (!(what == 0 ? in(v, 1, 9) : in(v, 0, 200)) || l.contains(v) || l.size() == (what == 0 ? 5 : 8)) {
                return NONE;
            }
            l.add(v);
            return l.size();
        }

        int step(int n, Map<Integer, Integer> known) {
            if (known.containsKey(n)) {
                return known.get(n);
            }
            int answer = NONE;
            for (int s = 1; s <= 9 && answer == NONE; s++) {
                if (told.steps.contains(s) && n - s >= 0 && !told.barred.contains(n - s) && step(n - s, known) == NONE) {
                    answer = s;
                }
            }
            known.put(n, answer);
            return answer;
        }

        int game(int n, int what) {
            if (!in(n, 0, 200) || !in(what, 0, 1)) {
                return NONE;
            }
            Map<Integer, Integer> known = new HashMap<>();
            if (what == 0) {
                return told.barred.contains(n) ? NONE : step(n, known);
            }
            int those = 0;
            for (int i = 0; i <= n; i++) {
                those += !told.barred.contains(i) && step(i, known) != NONE ? 1 : 0;
            }
            return those;
        }

        boolean undo() {
            if (past.isEmpty()) {
                return false;
            }
            now = past.removeLast();
            return true;
        }

        boolean image(boolean taken) {
            if (taken) {
                keptNow = now.copy();
                keptTold = told.copy();
                return true;
            }
            if (keptNow == null) {
                return false;
            }
            now = keptNow.copy();
            told = keptTold.copy();
            past.clear();
            return true;
        }

        int look(int what) {
            if (!in(what, 0, 13)) {
                return -100000;
            }
            int holds = 0;
            int blurred = 0;
            for (int b = 0; b < now.bargains.size(); b++) {
                holds += now.bargains.get(b).is == 1 ? 1 << b : 0;
                blurred += now.bargains.get(b).is == 2 ? 1 << b : 0;
            }
            return new int[] {now.persons.size(), now.bargains.size(), holds, blurred, now.ale, now.noise, now.day,
                now.book.size(), now.state, lines(0).size(), lines(1).size(), lines(2).size(), lines(3).size(),
                past.size()}[what];
        }
    }
}
