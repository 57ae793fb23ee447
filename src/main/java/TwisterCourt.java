/**
 * A tavern in which tongue twisters are law. The document (DOC.md) numbers its promises; the words in capitals are
 * the document's. All rows are made by the constructor and used again, so that no call makes an object.
 */
public final class TwisterCourt {
    public static final int NONE = -1;

    private static final int MOST_PERSONS = 12;
    private static final int MOST_BARGAINS = 14;
    private static final int MOST_PHRASES = 9;
    private static final int MOST_LINES = 16;
    private static final int MOST_BOOKED = 150;
    private static final int MOST_BYTES = 400;
    private static final int MOST_KEPT = 6;
    private static final int MOST_DAYS = 60;
    private static final int MOST_OPENED = 8;
    private static final int LAST_DAY = 9999;
    private static final int DAYS_TOLD = 1000;
    private static final int NINE = 9;

    /* What a BARGAIN IS. */
    private static final int OPEN = 0;
    private static final int HOLDS = 1;
    private static final int BLURRED = 2;
    private static final int BOTH = 3;

    /* What a line of THE BOOK tells. */
    private static final int LINE_SAID = 0;
    private static final int LINE_SLIPPED = 1;
    private static final int LINE_HOLDS = 2;
    private static final int LINE_BLURRED = 3;

    /* The TEXTS. */
    private static final int LAW = 0;
    private static final int TWISTS = 1;
    private static final int TAVERN = 2;
    private static final int HEARS = 3;

    /* What a line of TAVERN tells. */
    private static final int TELLS_ALE = 0;
    private static final int TELLS_NOISE = 1;
    private static final int TELLS_CLEAR = 2;
    private static final int TELLS_LIPS = 3;

    /* What THE LAW is asked for. */
    private static final int ROLLS = 0;
    private static final int BLURS = 1;
    private static final int COSTS = 2;

    /* The names that may stand in THE LAW. */
    private static final int NAME_LIPS = 0;
    private static final int NAME_PHRASE = 1;
    private static final int NAME_PHRASES = 2;
    private static final int NAME_CLEAR = 3;
    private static final int NAME_ALE = 4;
    private static final int NAME_NOISE = 5;
    private static final int NAME_HEARS = 6;
    private static final int NAME_OWES = 7;
    private static final int NAME_HELD = 8;
    private static final int NAME_DAY = 9;
    private static final int NAMES = 10;

    /* THE LAW's code: a NUMBER (0 .. 9999) is itself, a name stands from CODE_NAME on, what joins from CODE_JOIN on. */
    private static final int CODE_NAME = 10000;
    private static final int CODE_JOIN = 20000;
    private static final int JOIN_AND = 'a';
    private static final int JOIN_OR = 'o';
    private static final int JOIN_NOT = 'n';
    /* Eight that are open leave two values each, the innermost B six more. */
    private static final int MOST_STACKED = 32;

    /* The kinds of TOKENS. */
    private static final int TOKEN_END = 0;
    private static final int TOKEN_WORD = 1;
    private static final int TOKEN_NUMBER = 2;
    private static final int TOKEN_SIGN = 3;
    private static final int TOKEN_BLANK = 4;
    private static final int TOKEN_NOWHERE = 5;
    private static final int MOST_DIGITS = 4;

    /* The FAULTS. */
    private static final int FAULT_TOKEN = 1;
    private static final int FAULT_NUMBER = 2;
    private static final int FAULT_TOO_MANY = 3;

    /* What is told for thought. */
    private static final int MOST_JUMPS = 14;
    private static final int MOST_TURNS = 16;
    private static final int MOST_STEPS = 5;
    private static final int MOST_BARRED = 8;
    private static final int MOST_OF_NINE = 30;
    private static final int LAST_SQUARE = 200;

    /* Walks of eight steps stay on 17 by 17 squares. */
    private static final int MOST_WALKED = 8;
    private static final int WALK_SIDE = 17;
    private static final int ALL_WALKS = NONE - 99;
    private static final int MOST_PARTS = 9999;
    private static final int ROW_BITS = 16;
    private static final int SAME_FOR_EVER = 6174;

    private final Court court = new Court();
    private final Court kept = new Court();
    private boolean isKept;
    private final Past past = new Past();
    private final Tavern thought = new Tavern();
    private final Tape tape = new Tape();
    private final LawReader lawReader = new LawReader();
    private final LinesReader linesReader = new LinesReader();
    private final Numbers numbers = new Numbers();

    public TwisterCourt() {
    }

    public int state(int v) {
        int was = court.tavern.draws;
        court.tavern.draws = v;
        past.forget();
        return was;
    }

    public int person(int lips) {
        Tavern t = court.tavern;
        if (!isWithin(lips, 0, NINE) || t.persons >= MOST_PERSONS) {
            return NONE;
        }
        t.addPerson(lips);
        past.forget();
        return t.persons - 1;
    }

    public int bargain(int first, int second, int phrases) {
        Tavern t = court.tavern;
        if (!t.areTwo(first, second) || !isWithin(phrases, 1, MOST_PHRASES) || t.bargains >= MOST_BARGAINS) {
            return NONE;
        }
        t.addBargain(first, second, phrases);
        past.forget();
        return t.bargains - 1;
    }

    public boolean set(int what, int who, int v) {
        Tavern t = court.tavern;
        if (!isWithin(v, 0, NINE)) {
            return false;
        }
        if (what == 0 && t.hasPerson(who)) {
            t.lips[who] = v;
        } else if (what == 1 && t.isOpen(who) && v > 0) {
            t.clear[who] = v;
        } else if (what == 2) {
            t.ale = v;
        } else if (what == 3) {
            t.noise = v;
        } else {
            return false;
        }
        past.forget();
        return true;
    }

    public boolean act(int what, int which) {
        Tavern t = court.tavern;
        if (!canAct(what, which)) {
            return false;
        }
        past.keep(t, court.written.count);
        if (what <= 1) {
            court.twist(t, which, what, false);
        } else if (what == 2) {
            t.makeClear(which);
        } else if (what == 3) {
            court.blurAway(t, which, false);
        } else {
            t.owes[which]--;
        }
        return true;
    }

    public int days(int n) {
        Tavern t = court.tavern;
        if (!isWithin(n, 1, MOST_DAYS) || t.day + n > LAST_DAY) {
            return NONE;
        }
        int came = 0;
        for (int i = 0; i < n; i++) {
            past.keep(t, court.written.count);
            came += court.goDay(t, false);
        }
        return came;
    }

    public int feed(int a, int b, int c, int d, int e) {
        if (tape.length + 20 > MOST_BYTES) {
            return NONE;
        }
        tape.append(a);
        tape.append(b);
        tape.append(c);
        tape.append(d);
        tape.append(e);
        return tape.length;
    }

    public boolean end(int n) {
        if (!isWithin(n, 0, tape.length)) {
            return false;
        }
        tape.length = n;
        return true;
    }

    public int text(int k) {
        tape.begin();
        int lines = NONE;
        if (k == LAW && lawReader.read(tape)) {
            court.law.copyFrom(lawReader.law);
            lines = court.law.count;
        }
        if (isWithin(k, TWISTS, HEARS) && linesReader.read(tape, k, court.tavern)) {
            Lines told = court.linesOf(k);
            told.copyFrom(linesReader.lines);
            lines = told.count;
        }
        tape.length = 0;
        if (lines != NONE && (k == TWISTS || k == TAVERN)) {
            past.forget();
        }
        return lines;
    }

    public int fault(int what) {
        if (what == 0) {
            return tape.fault;
        }
        return what == 1 ? tape.faultPlace : NONE;
    }

    public int of(int person, int what) {
        Tavern t = court.tavern;
        if (!t.hasPerson(person)) {
            return NONE;
        }
        switch (what) {
            case 0:
                return t.lips[person];
            case 1:
                return t.held[person];
            case 2:
                return t.owes[person];
            case 3:
                return t.bargainsOf(person);
            case 4:
                return court.heardBy(person);
            default:
                return NONE;
        }
    }

    public int deal(int bargain, int what) {
        Tavern t = court.tavern;
        if (!t.hasBargain(bargain)) {
            return NONE;
        }
        switch (what) {
            case 0:
                return t.first[bargain];
            case 1:
                return t.second[bargain];
            case 2:
                return t.phrases[bargain];
            case 3:
                return t.clear[bargain];
            case 4:
                return t.hasSaid(bargain, 0) ? 1 : 0;
            case 5:
                return t.hasSaid(bargain, 1) ? 1 : 0;
            case 6:
                return t.is[bargain];
            case 7:
                return court.asked(BLURS, t, bargain, NONE, 0);
            case 8:
                return Integer.bitCount(court.hearersOf(bargain));
            default:
                return phraseTold(bargain, what);
        }
    }

    public int book(int i, int what) {
        Lines written = court.written;
        if (!isWithin(i, 0, written.count - 1)) {
            return NONE;
        }
        switch (what) {
            case 0:
                return written.day[i];
            case 1:
                return written.kind[i];
            case 2:
                return written.which[i];
            case 3:
                return written.much[i];
            default:
                return NONE;
        }
    }

    public int goes(int n, int what) {
        if (!isWithin(n, 1, MOST_DAYS) || !isWithin(what, 0, 3)) {
            return NONE;
        }
        thought.copyFrom(court.tavern);
        for (int i = 0; i < n; i++) {
            court.goDay(thought, true);
        }
        switch (what) {
            case 0:
                return Integer.bitCount(thought.thoseThatAre(HOLDS));
            case 1:
                return thought.owesOfAll();
            case 2:
                return Integer.bitCount(thought.thoseThatAre(BLURRED));
            default:
                return thought.clearOfAll();
        }
    }

    public int holds(int bargain) {
        if (!court.tavern.hasBargain(bargain)) {
            return NONE;
        }
        thought.copyFrom(court.tavern);
        for (int gone = 0; gone <= MOST_DAYS; gone++) {
            if (thought.is[bargain] == HOLDS) {
                return gone;
            }
            court.goDay(thought, true);
        }
        return NONE;
    }

    public int deals(int a, int b) {
        Tavern t = court.tavern;
        if (!t.areTwo(a, b)) {
            return NONE;
        }
        return Integer.bitCount(t.bargainsOf(a) & t.bargainsOf(b) & t.thoseThatAre(HOLDS));
    }

    public int jump(int v) {
        return court.told.jumpRow.tell(v);
    }

    public int jumps(int what) {
        if (what == 0) {
            return court.told.fewestJumps();
        }
        return what == 1 ? court.told.furthestPlace() : NONE;
    }

    public int walks(int n, int x, int y) {
        if (!isWithin(n, 0, MOST_WALKED)) {
            return NONE;
        }
        if (x == ALL_WALKS) {
            return numbers.walksTo(n, NONE);
        }
        if (!isWithin(x, -MOST_WALKED, MOST_WALKED) || !isWithin(y, -MOST_WALKED, MOST_WALKED)) {
            return NONE;
        }
        return numbers.walksTo(n, (y + MOST_WALKED) * WALK_SIDE + x + MOST_WALKED);
    }

    public int apart(int d, int what) {
        if (!isWithin(d, 2, 50) || !isWithin(what, 0, 1)) {
            return NONE;
        }
        return Numbers.leastApart(d, what == 0);
    }

    public int corners(int n, int what) {
        if (!isWithin(n, 1, 200)) {
            return NONE;
        }
        if (what == 0) {
            return Numbers.cornersUpTo(n);
        }
        return what == 1 ? Numbers.cornersAround(n) : NONE;
    }

    public int parts(int n, int what) {
        if (!isWithin(n, 1, 999) || !isWithin(what, 0, 1)) {
            return NONE;
        }
        return numbers.chainOfParts(n, what == 0);
    }

    public int lasts(int n, int what) {
        if (!isWithin(n, 0, 999999) || !isWithin(what, 0, 3)) {
            return NONE;
        }
        return Numbers.lasting(n, what >= 2, what % 2 == 0);
    }

    public int turn(int v) {
        return court.told.turnRow.tell(v);
    }

    public int turning(int what) {
        if (!isWithin(what, 0, 3)) {
            return NONE - 9999;
        }
        return court.told.turned(what);
    }

    public int ant(int n, int what) {
        if (!isWithin(n, 0, 300) || !isWithin(what, 0, 1)) {
            return NONE;
        }
        return Numbers.antWalk(n, what == 0);
    }

    public int row(int v, int rn, int what) {
        if (!isWithin(v, 0, 65535) || !isWithin(rn, 0, 30 * 256 + 255) || !isWithin(what, 0, 1)) {
            return NONE;
        }
        int bits = v;
        for (int i = 0; i < rn / 256; i++) {
            bits = Numbers.nextRow(bits, rn % 256);
        }
        return what == 0 ? bits : Integer.bitCount(bits);
    }

    public int own(int n, int what) {
        if (!isWithin(n, 0, 9999) || !isWithin(what, 0, 1)) {
            return NONE;
        }
        return Numbers.ownDifferences(n, what == 0);
    }

    public int round(int w, int t, int v, int n) {
        if (!isWithin(w, 2, 8) || !isWithin(n, NONE, 1000)) {
            return NONE;
        }
        int all = (1 << w) - 1;
        if (!isWithin(t, 1, all) || !isWithin(v, 1, all)) {
            return NONE;
        }
        return n == NONE ? Numbers.timesRound(w, t, v) : Numbers.shifted(w, t, v, n);
    }

    public boolean nine(int place, int v) {
        if (!isWithin(place, 0, NINE - 1) || !isWithin(v, 0, MOST_OF_NINE)) {
            return false;
        }
        court.told.nines[place] = v;
        return true;
    }

    public int even(int s) {
        if (s == NONE) {
            return court.told.waysToEven();
        }
        return isWithin(s, 0, 3 * MOST_OF_NINE) ? court.told.linesOfSum(s) : NONE;
    }

    public int rule(int what, int v) {
        if (what == 0) {
            return court.told.steps.tell(v);
        }
        return what == 1 ? court.told.barred.tell(v) : NONE;
    }

    public int game(int n, int what) {
        if (!isWithin(n, 0, LAST_SQUARE)) {
            return NONE;
        }
        if (what == 0) {
            return court.told.winningStep(n);
        }
        return what == 1 ? court.told.winningSquares(n) : NONE;
    }

    public boolean undo() {
        return past.goBack(court);
    }

    public boolean image(boolean taken) {
        if (taken) {
            kept.copyFrom(court);
            isKept = true;
        } else if (isKept) {
            court.copyFrom(kept);
            past.forget();
        }
        return isKept;
    }

    public int look(int what) {
        Tavern t = court.tavern;
        switch (what) {
            case 0:
                return t.persons;
            case 1:
                return t.bargains;
            case 2:
                return t.thoseThatAre(HOLDS);
            case 3:
                return t.thoseThatAre(BLURRED);
            case 4:
                return t.ale;
            case 5:
                return t.noise;
            case 6:
                return t.day;
            case 7:
                return court.written.count;
            case 8:
                return t.draws;
            case 9:
                return court.law.count;
            case 10:
                return court.twists.count;
            case 11:
                return court.evenings.count;
            case 12:
                return court.hearings.count;
            case 13:
                return past.count;
            default:
                return NONE - 99999;
        }
    }

    private static boolean isWithin(int v, int least, int most) {
        return v >= least && v <= most;
    }

    private boolean canAct(int what, int which) {
        Tavern t = court.tavern;
        switch (what) {
            case 0:
            case 1:
                return t.isOpen(which) && !t.hasSaid(which, what);
            case 2:
                return t.canClear(which) && t.clear[which] < NINE;
            case 3:
                return t.isOpen(which);
            case 4:
                return t.hasPerson(which) && t.owes[which] > 0;
            default:
                return false;
        }
    }

    /** What rolls (from 10 and 20 on) and costs (from 30 and 40 on) are told to be on a PHRASE. */
    private int phraseTold(int bargain, int what) {
        Tavern t = court.tavern;
        if (!t.hasBargain(bargain) || !isWithin(what, 10, 49)) {
            return NONE;
        }
        int group = what / 10 - 1;
        int phrase = what % 10;
        if (!isWithin(phrase, 1, t.phrases[bargain])) {
            return NONE;
        }
        return court.asked(group < 2 ? ROLLS : COSTS, t, bargain, group % 2, phrase);
    }

    /** PERSONS, BARGAINS and what a DAY can change, so that one copy of it is all that UNDO and thought need. */
    private static final class Tavern {
        int draws;
        int ale;
        int noise;
        int day;
        int persons;
        int bargains;
        final int[] lips = new int[MOST_PERSONS];
        final int[] held = new int[MOST_PERSONS];
        final int[] owes = new int[MOST_PERSONS];
        final int[] first = new int[MOST_BARGAINS];
        final int[] second = new int[MOST_BARGAINS];
        final int[] phrases = new int[MOST_BARGAINS];
        final int[] clear = new int[MOST_BARGAINS];
        /* SPOKEN as a set: 1 by the first, 2 by the second. */
        final int[] said = new int[MOST_BARGAINS];
        final int[] is = new int[MOST_BARGAINS];

        void copyFrom(Tavern other) {
            draws = other.draws;
            ale = other.ale;
            noise = other.noise;
            day = other.day;
            persons = other.persons;
            bargains = other.bargains;
            System.arraycopy(other.lips, 0, lips, 0, MOST_PERSONS);
            System.arraycopy(other.held, 0, held, 0, MOST_PERSONS);
            System.arraycopy(other.owes, 0, owes, 0, MOST_PERSONS);
            System.arraycopy(other.first, 0, first, 0, MOST_BARGAINS);
            System.arraycopy(other.second, 0, second, 0, MOST_BARGAINS);
            System.arraycopy(other.phrases, 0, phrases, 0, MOST_BARGAINS);
            System.arraycopy(other.clear, 0, clear, 0, MOST_BARGAINS);
            System.arraycopy(other.said, 0, said, 0, MOST_BARGAINS);
            System.arraycopy(other.is, 0, is, 0, MOST_BARGAINS);
        }

        void addPerson(int itsLips) {
            if (persons < MOST_PERSONS) {
                lips[persons] = itsLips;
                held[persons] = 0;
                owes[persons] = 0;
                persons++;
            }
        }

        void addBargain(int itsFirst, int itsSecond, int itsPhrases) {
            if (bargains < MOST_BARGAINS) {
                first[bargains] = itsFirst;
                second[bargains] = itsSecond;
                phrases[bargains] = itsPhrases;
                clear[bargains] = NINE;
                said[bargains] = 0;
                is[bargains] = OPEN;
                bargains++;
            }
        }

        boolean hasPerson(int person) {
            return person >= 0 && person < persons;
        }

        boolean hasBargain(int bargain) {
            return bargain >= 0 && bargain < bargains;
        }

        boolean areTwo(int a, int b) {
            return hasPerson(a) && hasPerson(b) && a != b;
        }

        boolean isOpen(int bargain) {
            return hasBargain(bargain) && is[bargain] == OPEN;
        }

        boolean canClear(int bargain) {
            return hasBargain(bargain) && is[bargain] != HOLDS;
        }

        boolean hasSaid(int bargain, int side) {
            return hasBargain(bargain) && (said[bargain] >> side & 1) == 1;
        }

        /** Side 0 is the FIRST, 1 the SECOND. */
        int whoIs(int bargain, int side) {
            if (!hasBargain(bargain) || !isWithin(side, 0, 1)) {
                return NONE;
            }
            return side == 0 ? first[bargain] : second[bargain];
        }

        boolean isOneOf(int bargain, int person) {
            return hasBargain(bargain) && (first[bargain] == person || second[bargain] == person);
        }

        void makeClear(int bargain) {
            if (canClear(bargain)) {
                clear[bargain] = NINE;
                is[bargain] = OPEN;
            }
        }

        int drawn(int m) {
            draws = 1664525 * draws + 1013904223;
            return m > 0 ? (draws >>> 8) % m : 0;
        }

        int bargainsOf(int person) {
            int those = 0;
            for (int b = 0; b < bargains; b++) {
                if (isOneOf(b, person)) {
                    those |= 1 << b;
                }
            }
            return those;
        }

        int thoseThatAre(int what) {
            int those = 0;
            for (int b = 0; b < bargains; b++) {
                if (is[b] == what) {
                    those |= 1 << b;
                }
            }
            return those;
        }

        int owesOfAll() {
            int sum = 0;
            for (int p = 0; p < persons; p++) {
                sum += owes[p];
            }
            return sum;
        }

        int clearOfAll() {
            int sum = 0;
            for (int b = 0; b < bargains; b++) {
                sum += clear[b];
            }
            return sum;
        }
    }

    /**
     * Lines with a DAY: of TWISTS (kind: the side, which: the BARGAIN), of TAVERN, of HEARS (which: the BARGAIN, much: the
     * PERSON; no DAY) or of THE BOOK (kind: what).
     */
    private static final class Lines {
        int count;
        private final int most;
        final int[] day;
        final int[] kind;
        final int[] which;
        final int[] much;

        Lines(int most) {
            this.most = Math.max(0, most);
            day = new int[this.most];
            kind = new int[this.most];
            which = new int[this.most];
            much = new int[this.most];
        }

        /** What would be too many is left out. */
        void append(int onDay, int itsKind, int itsWhich, int howMuch) {
            if (count < most) {
                day[count] = onDay;
                kind[count] = itsKind;
                which[count] = itsWhich;
                much[count] = howMuch;
                count++;
            }
        }

        void copyFrom(Lines other) {
            count = Math.min(most, other.count);
            System.arraycopy(other.day, 0, day, 0, count);
            System.arraycopy(other.kind, 0, kind, 0, count);
            System.arraycopy(other.which, 0, which, 0, count);
            System.arraycopy(other.much, 0, much, 0, count);
        }
    }

    /** THE LAW as code in which what joins two values stands behind both. */
    private static final class Law {
        int count;
        int size;
        final int[] word = new int[MOST_LINES];
        /* Where in the code a line's E begins, where its B does, where the line ends (at its B's place: it has none). */
        final int[] says = new int[MOST_LINES];
        final int[] when = new int[MOST_LINES];
        final int[] ends = new int[MOST_LINES];
        final int[] code = new int[MOST_BYTES];
        /* What the names are for what is asked now. */
        final int[] names = new int[NAMES];
        private final int[] stack = new int[MOST_STACKED];

        void clear() {
            count = 0;
            size = 0;
        }

        void put(int c) {
            if (size < MOST_BYTES) {
                code[size] = c;
                size++;
            }
        }

        void appendLine(int itsWord, int itsE, int itsB) {
            if (count < MOST_LINES) {
                word[count] = itsWord;
                says[count] = itsE;
                when[count] = itsB;
                ends[count] = size;
                count++;
            }
        }

        void copyFrom(Law other) {
            count = other.count;
            size = other.size;
            System.arraycopy(other.word, 0, word, 0, MOST_LINES);
            System.arraycopy(other.says, 0, says, 0, MOST_LINES);
            System.arraycopy(other.when, 0, when, 0, MOST_LINES);
            System.arraycopy(other.ends, 0, ends, 0, MOST_LINES);
            System.arraycopy(other.code, 0, code, 0, MOST_BYTES);
        }

        /** The first line with that word whose B is so, or that has none. */
        int lineFor(int itsWord) {
            for (int i = 0; i < count; i++) {
                if (word[i] == itsWord && (when[i] == ends[i] || worked(when[i], ends[i]) != 0)) {
                    return i;
                }
            }
            return NONE;
        }

        int valueOf(int line) {
            return line >= 0 && line < count ? worked(says[line], when[line]) : 0;
        }

        private int worked(int from, int to) {
            int top = 0;
            for (int i = from; i >= 0 && i < to && i < size; i++) {
                int c = code[i];
                if (c < CODE_JOIN) {
                    if (top < MOST_STACKED) {
                        stack[top] = c < CODE_NAME ? c : named(c - CODE_NAME);
                        top++;
                    }
                } else if (c == CODE_JOIN + JOIN_NOT) {
                    if (top > 0) {
                        stack[top - 1] = 1 - stack[top - 1];
                    }
                } else if (top > 1) {
                    top--;
                    stack[top - 1] = joined(c - CODE_JOIN, stack[top - 1], stack[top]);
                }
            }
            return top > 0 ? stack[0] : 0;
        }

        private int named(int name) {
            return name >= 0 && name < NAMES ? names[name] : 0;
        }

        private static int joined(int how, int a, int b) {
            switch (how) {
                case '+':
                    return a + b;
                case '-':
                    return a - b;
                case '*':
                    return a * b;
                case '/':
                    return b == 0 ? 0 : a / b;
                case '<':
                    return a < b ? 1 : 0;
                case '=':
                    return a == b ? 1 : 0;
                case '>':
                    return a > b ? 1 : 0;
                case JOIN_AND:
                    return a & b;
                default:
                    return a | b;
            }
        }
    }

    /** All that is and was told, but for the TAPE and what can be undone: what THE IMAGE keeps. */
    private static final class Court {
        final Tavern tavern = new Tavern();
        final Lines written = new Lines(MOST_BOOKED);
        final Law law = new Law();
        final Lines twists = new Lines(MOST_LINES);
        final Lines evenings = new Lines(MOST_LINES);
        final Lines hearings = new Lines(MOST_LINES);
        final Told told = new Told();

        void copyFrom(Court other) {
            tavern.copyFrom(other.tavern);
            written.copyFrom(other.written);
            law.copyFrom(other.law);
            twists.copyFrom(other.twists);
            evenings.copyFrom(other.evenings);
            hearings.copyFrom(other.hearings);
            told.copyFrom(other.told);
        }

        Lines linesOf(int text) {
            if (text == TWISTS) {
                return twists;
            }
            return text == TAVERN ? evenings : hearings;
        }

        /** The PERSONS that hear a BARGAIN, as a set: one who is told twice is one. */
        int hearersOf(int bargain) {
            int those = 0;
            for (int i = 0; i < hearings.count; i++) {
                if (hearings.which[i] == bargain) {
                    those |= 1 << hearings.much[i];
                }
            }
            return those;
        }

        int heardBy(int person) {
            int those = 0;
            for (int i = 0; i < hearings.count; i++) {
                if (hearings.much[i] == person) {
                    those |= 1 << hearings.which[i];
                }
            }
            return those;
        }

        /** What THE LAW tells of a BARGAIN, of who is on that side (NONE: of neither) and a PHRASE. */
        int asked(int word, Tavern t, int bargain, int side, int phrase) {
            if (!t.hasBargain(bargain)) {
                return 0;
            }
            int[] names = law.names;
            int who = t.whoIs(bargain, side);
            boolean isSomeone = t.hasPerson(who);
            names[NAME_LIPS] = isSomeone ? t.lips[who] : 0;
            names[NAME_OWES] = isSomeone ? t.owes[who] : 0;
            names[NAME_HELD] = isSomeone ? t.held[who] : 0;
            names[NAME_PHRASE] = phrase;
            names[NAME_PHRASES] = t.phrases[bargain];
            names[NAME_CLEAR] = t.clear[bargain];
            names[NAME_ALE] = t.ale;
            names[NAME_NOISE] = t.noise;
            names[NAME_HEARS] = Integer.bitCount(hearersOf(bargain));
            names[NAME_DAY] = t.day;
            int line = law.lineFor(word);
            int tells = line == NONE ? withoutLaw(word) : law.valueOf(line);
            return Math.max(0, Math.min(word == ROLLS ? 1000 : 9, tells));
        }

        private int withoutLaw(int word) {
            int[] names = law.names;
            if (word == ROLLS) {
                return 700 + 50 * names[NAME_LIPS] - 30 * names[NAME_ALE];
            }
            return word == BLURS ? names[NAME_ALE] / 2 + names[NAME_NOISE] / 2 : names[NAME_PHRASE];
        }

        /** One DAY: how many BARGAINS came to hold. In thought nothing is drawn and nothing is written. */
        int goDay(Tavern t, boolean inThought) {
            for (int i = 0; i < evenings.count; i++) {
                if (evenings.day[i] == t.day) {
                    tellEvening(t, i);
                }
            }
            int came = 0;
            for (int i = 0; i < twists.count; i++) {
                if (twists.day[i] == t.day && twist(t, twists.which[i], twists.kind[i], inThought)) {
                    came++;
                }
            }
            for (int b = 0; b < t.bargains; b++) {
                blurSome(t, b, inThought);
            }
            t.day++;
            return came;
        }

        private void tellEvening(Tavern t, int line) {
            int which = evenings.which[line];
            int much = evenings.much[line];
            switch (evenings.kind[line]) {
                case TELLS_ALE:
                    t.ale = much;
                    break;
                case TELLS_NOISE:
                    t.noise = much;
                    break;
                case TELLS_CLEAR:
                    t.makeClear(which);
                    break;
                default:
                    if (t.hasPerson(which)) {
                        t.lips[which] = much;
                    }
                    break;
            }
        }

        /** One says a BARGAIN that is open, if he has not yet: whether it came to hold by that. */
        boolean twist(Tavern t, int bargain, int side, boolean inThought) {
            int who = t.whoIs(bargain, side);
            if (!t.isOpen(bargain) || t.hasSaid(bargain, side) || !t.hasPerson(who)) {
                return false;
            }
            for (int phrase = 1; phrase <= t.phrases[bargain]; phrase++) {
                int rolls = asked(ROLLS, t, bargain, side, phrase);
                boolean isOff = inThought ? rolls >= 500 : rolls > 0 && t.drawn(1000) < rolls;
                if (!isOff) {
                    t.owes[who] += asked(COSTS, t, bargain, side, phrase);
                    note(t, LINE_SLIPPED, bargain, phrase, inThought);
                    return false;
                }
            }
            t.said[bargain] |= 1 << side;
            note(t, LINE_SAID, bargain, who, inThought);
            int other = t.whoIs(bargain, 1 - side);
            if (t.said[bargain] != BOTH || !t.hasPerson(other)) {
                return false;
            }
            t.is[bargain] = HOLDS;
            t.held[who]++;
            t.held[other]++;
            note(t, LINE_HOLDS, bargain, t.phrases[bargain], inThought);
            return true;
        }

        private void blurSome(Tavern t, int bargain, boolean inThought) {
            if (!t.isOpen(bargain)) {
                return;
            }
            int blurs = asked(BLURS, t, bargain, NONE, 0);
            t.clear[bargain] = Math.max(0, t.clear[bargain] - blurs);
            if (t.clear[bargain] == 0) {
                blurAway(t, bargain, inThought);
            }
        }

        void blurAway(Tavern t, int bargain, boolean inThought) {
            if (!t.isOpen(bargain)) {
                return;
            }
            note(t, LINE_BLURRED, bargain, Integer.bitCount(t.said[bargain]), inThought);
            t.clear[bargain] = 0;
            t.is[bargain] = BLURRED;
            t.said[bargain] = 0;
        }

        private void note(Tavern t, int what, int bargain, int much, boolean inThought) {
            if (!inThought) {
                written.append(t.day, what, bargain, much);
            }
        }
    }

    /** What can be undone: the newest six, the oldest written over first. */
    private static final class Past {
        int count;
        private int next;
        private final Tavern[] taverns = new Tavern[MOST_KEPT];
        private final int[] booked = new int[MOST_KEPT];

        Past() {
            for (int i = 0; i < MOST_KEPT; i++) {
                taverns[i] = new Tavern();
            }
        }

        void forget() {
            count = 0;
        }

        /** THE BOOK only grows between, so that how long it was is enough to bring it back. */
        void keep(Tavern t, int linesBooked) {
            taverns[next].copyFrom(t);
            booked[next] = linesBooked;
            next = next + 1 < MOST_KEPT ? next + 1 : 0;
            count = Math.min(MOST_KEPT, count + 1);
        }

        boolean goBack(Court court) {
            if (count <= 0) {
                return false;
            }
            next = next > 0 ? next - 1 : MOST_KEPT - 1;
            count--;
            court.tavern.copyFrom(taverns[next]);
            court.written.count = booked[next];
            return true;
        }
    }

    /** The TAPE, its TOKENS one by one, and the first FAULT of the latest text. */
    private static final class Tape {
        final byte[] bytes = new byte[MOST_BYTES];
        int length;
        int fault;
        int faultPlace = NONE;
        /* The TOKEN at hand: its kind, where it begins, where what follows it does, a NUMBER or a sign. */
        int kind;
        int place;
        int next;
        int value;
        /* The NUMBER that was taken last. */
        int taken;

        void append(int four) {
            for (int shift = 24; shift >= 0; shift -= 8) {
                if (length < MOST_BYTES) {
                    bytes[length] = (byte) (four >> shift);
                    length++;
                }
            }
        }

        void begin() {
            fault = 0;
            faultPlace = NONE;
            next = 0;
            advance();
        }

        /** Always false, so that a reader can refuse and leave at once. */
        boolean refuse(int what) {
            fault = what;
            faultPlace = place;
            return false;
        }

        /** Letters, and digits, as many as stand together are one TOKEN; any other byte is one by itself. */
        void advance() {
            while (next < length && kindAt(next) == TOKEN_BLANK) {
                next++;
            }
            place = next;
            kind = kindAt(next);
            if (kind == TOKEN_END) {
                return;
            }
            value = kind == TOKEN_NUMBER ? bytes[next] - '0' : bytes[next];
            next++;
            while (kind != TOKEN_SIGN && next < length && kindAt(next) == kind) {
                value = value * 10 + bytes[next] - '0';
                next++;
            }
            if (kind == TOKEN_NUMBER && next - place > MOST_DIGITS) {
                kind = TOKEN_NOWHERE;
            }
        }

        private int kindAt(int at) {
            if (at < 0 || at >= length || at >= MOST_BYTES) {
                return TOKEN_END;
            }
            int c = bytes[at];
            if (c >= 'a' && c <= 'z' || c >= 'A' && c <= 'Z') {
                return TOKEN_WORD;
            }
            if (c >= '0' && c <= '9') {
                return TOKEN_NUMBER;
            }
            return c == ' ' || c == '\n' ? TOKEN_BLANK : TOKEN_SIGN;
        }

        boolean isWord(String word) {
            if (kind != TOKEN_WORD || next - place != word.length()) {
                return false;
            }
            for (int i = 0; i < word.length() && place + i < MOST_BYTES; i++) {
                if (bytes[place + i] != word.charAt(i)) {
                    return false;
                }
            }
            return true;
        }

        boolean isSign(char sign) {
            return kind == TOKEN_SIGN && value == sign;
        }

        /** Whether that word was at hand; if so it is passed. */
        boolean passWord(String word) {
            boolean isAtHand = isWord(word);
            if (isAtHand) {
                advance();
            }
            return isAtHand;
        }

        /** Which of two signs was at hand (0: none); it is passed. */
        int passSign(char one, char other) {
            if (!isSign(one) && !isSign(other)) {
                return 0;
            }
            int sign = value;
            advance();
            return sign;
        }

        boolean takeWord(String word) {
            if (!isWord(word)) {
                return refuse(FAULT_TOKEN);
            }
            advance();
            return true;
        }

        boolean takeSign(char sign) {
            if (!isSign(sign)) {
                return refuse(FAULT_TOKEN);
            }
            advance();
            return true;
        }

        /** A NUMBER below a bound. */
        boolean takeNumber(int bound) {
            if (kind != TOKEN_NUMBER) {
                return refuse(FAULT_TOKEN);
            }
            if (value >= bound) {
                return refuse(FAULT_NUMBER);
            }
            taken = value;
            advance();
            return true;
        }
    }

    /** Reads THE LAW from the TAPE; the law that it holds is whole only if read() said so. */
    private static final class LawReader {
        final Law law = new Law();

        boolean read(Tape tape) {
            law.clear();
            for (int i = 0; i <= MOST_LINES && tape.kind != TOKEN_END; i++) {
                int word = wordAtHand(tape);
                if (word == NONE) {
                    return tape.refuse(FAULT_TOKEN);
                }
                if (i == MOST_LINES) {
                    return tape.refuse(FAULT_TOO_MANY);
                }
                tape.advance();
                int itsE = law.size;
                if (!readSum(tape)) {
                    return false;
                }
                int itsB = law.size;
                if (tape.passWord("when") && !readEither(tape, 0)) {
                    return false;
                }
                if (!tape.takeSign(';')) {
                    return false;
                }
                law.appendLine(word, itsE, itsB);
            }
            return true;
        }

        private static int wordAtHand(Tape tape) {
            if (tape.isWord("rolls")) {
                return ROLLS;
            }
            if (tape.isWord("blurs")) {
                return BLURS;
            }
            return tape.isWord("costs") ? COSTS : NONE;
        }

        private static int nameAtHand(Tape tape) {
            if (tape.isWord("lips")) {
                return NAME_LIPS;
            }
            if (tape.isWord("phrase")) {
                return NAME_PHRASE;
            }
            if (tape.isWord("phrases")) {
                return NAME_PHRASES;
            }
            if (tape.isWord("clear")) {
                return NAME_CLEAR;
            }
            if (tape.isWord("ale")) {
                return NAME_ALE;
            }
            if (tape.isWord("noise")) {
                return NAME_NOISE;
            }
            if (tape.isWord("hears")) {
                return NAME_HEARS;
            }
            if (tape.isWord("owes")) {
                return NAME_OWES;
            }
            if (tape.isWord("held")) {
                return NAME_HELD;
            }
            return tape.isWord("day") ? NAME_DAY : NONE;
        }

        /** B, with so many ( and not open around it: an or is put only when all that and joins behind it has been. */
        private boolean readEither(Tape tape, int opened) {
            boolean isAnd = false;
            boolean isOr = false;
            for (int i = 0; i < MOST_BYTES; i++) {
                if (!readTest(tape, opened)) {
                    return false;
                }
                if (isAnd) {
                    law.put(CODE_JOIN + JOIN_AND);
                }
                isAnd = tape.passWord("and");
                if (isAnd) {
                    continue;
                }
                if (isOr) {
                    law.put(CODE_JOIN + JOIN_OR);
                }
                isOr = tape.passWord("or");
                if (!isOr) {
                    return true;
                }
            }
            return false;
        }

        /** C. */
        private boolean readTest(Tape tape, int opened) {
            boolean isNot = tape.isWord("not");
            if (isNot || tape.isSign('(')) {
                if (opened >= MOST_OPENED) {
                    return tape.refuse(FAULT_TOO_MANY);
                }
                tape.advance();
                if (!isNot) {
                    return readEither(tape, opened + 1) && tape.takeSign(')');
                }
                if (!readTest(tape, opened + 1)) {
                    return false;
                }
                law.put(CODE_JOIN + JOIN_NOT);
                return true;
            }
            if (!readSum(tape)) {
                return false;
            }
            if (!tape.isSign('<') && !tape.isSign('=') && !tape.isSign('>')) {
                return tape.refuse(FAULT_TOKEN);
            }
            int sign = tape.value;
            tape.advance();
            if (!readSum(tape)) {
                return false;
            }
            law.put(CODE_JOIN + sign);
            return true;
        }

        /** E: a + or - is put only when all that * and / join behind it has been. */
        private boolean readSum(Tape tape) {
            int product = 0;
            int sum = 0;
            for (int i = 0; i < MOST_BYTES; i++) {
                if (!readUnit(tape, product == '/')) {
                    return false;
                }
                if (product != 0) {
                    law.put(CODE_JOIN + product);
                }
                product = tape.passSign('*', '/');
                if (product != 0) {
                    continue;
                }
                if (sum != 0) {
                    law.put(CODE_JOIN + sum);
                }
                sum = tape.passSign('+', '-');
                if (sum == 0) {
                    return true;
                }
            }
            return false;
        }

        /** U, or the NUMBER that divides. */
        private boolean readUnit(Tape tape, boolean isDivisor) {
            if (tape.kind == TOKEN_NUMBER) {
                if (isDivisor && tape.value == 0) {
                    return tape.refuse(FAULT_NUMBER);
                }
                law.put(tape.value);
                tape.advance();
                return true;
            }
            int name = isDivisor ? NONE : nameAtHand(tape);
            if (name == NONE) {
                return tape.refuse(FAULT_TOKEN);
            }
            law.put(CODE_NAME + name);
            tape.advance();
            return true;
        }
    }

    /** Reads TWISTS, TAVERN and HEARS from the TAPE; the lines that it holds are whole only if read() said so. */
    private static final class LinesReader {
        final Lines lines = new Lines(MOST_LINES);
        private int day;
        private int kind;
        private int which;
        private int much;

        boolean read(Tape tape, int text, Tavern t) {
            lines.count = 0;
            for (int i = 0; i <= MOST_LINES && tape.kind != TOKEN_END; i++) {
                if (!tape.isWord(text == HEARS ? "bargain" : "on")) {
                    return tape.refuse(FAULT_TOKEN);
                }
                if (i == MOST_LINES) {
                    return tape.refuse(FAULT_TOO_MANY);
                }
                tape.advance();
                if (!readLine(tape, text, t) || !tape.takeSign(';')) {
                    return false;
                }
                lines.append(day, kind, which, much);
            }
            return true;
        }

        private boolean readLine(Tape tape, int text, Tavern t) {
            day = 0;
            kind = 0;
            which = 0;
            much = 0;
            if (text == HEARS) {
                return readHearing(tape, t);
            }
            if (!tape.takeNumber(DAYS_TOLD)) {
                return false;
            }
            day = tape.taken;
            return text == TWISTS ? readTwist(tape, t) : readEvening(tape, t);
        }

        private boolean readTwist(Tape tape, Tavern t) {
            if (!tape.takeWord("bargain") || !tape.takeNumber(t.bargains)) {
                return false;
            }
            which = tape.taken;
            kind = tape.isWord("second") ? 1 : 0;
            return tape.takeWord(kind == 1 ? "second" : "first");
        }

        private boolean readEvening(Tape tape, Tavern t) {
            kind = kindAtHand(tape);
            if (kind == NONE) {
                return tape.refuse(FAULT_TOKEN);
            }
            tape.advance();
            if (kind == TELLS_CLEAR || kind == TELLS_LIPS) {
                if (!tape.takeNumber(kind == TELLS_CLEAR ? t.bargains : t.persons)) {
                    return false;
                }
                which = tape.taken;
            }
            if (kind != TELLS_CLEAR) {
                if (!tape.takeNumber(NINE + 1)) {
                    return false;
                }
                much = tape.taken;
            }
            return true;
        }

        private static int kindAtHand(Tape tape) {
            if (tape.isWord("ale")) {
                return TELLS_ALE;
            }
            if (tape.isWord("noise")) {
                return TELLS_NOISE;
            }
            if (tape.isWord("clear")) {
                return TELLS_CLEAR;
            }
            return tape.isWord("lips") ? TELLS_LIPS : NONE;
        }

        private boolean readHearing(Tape tape, Tavern t) {
            if (!tape.takeNumber(t.bargains)) {
                return false;
            }
            which = tape.taken;
            if (!tape.takeWord("by")) {
                return false;
            }
            if (tape.kind == TOKEN_NUMBER && t.isOneOf(which, tape.value)) {
                return tape.refuse(FAULT_NUMBER);
            }
            if (!tape.takeNumber(t.persons)) {
                return false;
            }
            much = tape.taken;
            return true;
        }
    }

    /** A row of numbers that are told one by one. */
    private static final class Row {
        int count;
        final int[] values;
        private final int least;
        private final int greatest;
        private final boolean isUnlike;

        /** Where isUnlike, no number is told twice. */
        Row(int most, int least, int greatest, boolean isUnlike) {
            values = new int[Math.max(0, most)];
            this.least = least;
            this.greatest = greatest;
            this.isUnlike = isUnlike;
        }

        /** How many there are then; NONE if it can't be; told NONE, there are none. */
        int tell(int v) {
            if (v == NONE) {
                count = 0;
                return 0;
            }
            if (!isWithin(v, least, greatest) || count >= values.length || isUnlike && has(v)) {
                return NONE;
            }
            values[count] = v;
            count++;
            return count;
        }

        boolean has(int v) {
            for (int i = 0; i < count; i++) {
                if (values[i] == v) {
                    return true;
                }
            }
            return false;
        }

        void copyFrom(Row other) {
            count = Math.min(values.length, other.count);
            System.arraycopy(other.values, 0, values, 0, count);
        }
    }

    /** What is told for thought alone: JUMPS, TURNS, EVEN and GAME. */
    private static final class Told {
        /* The eight straight lines of a square of 3 by 3, by their places. */
        private static final int[] STRAIGHT = {
            0, 1, 2, 3, 4, 5, 6, 7, 8, 0, 3, 6, 1, 4, 7, 2, 5, 8, 0, 4, 8, 2, 4, 6
        };
        private static final int STRAIGHT_LINES = 8;
        private static final int NEVER = 99;

        final Row jumpRow = new Row(MOST_JUMPS, 0, 9, false);
        final Row turnRow = new Row(MOST_TURNS, 0, 2, false);
        final Row steps = new Row(MOST_STEPS, 1, 9, true);
        final Row barred = new Row(MOST_BARRED, 0, LAST_SQUARE, true);
        final int[] nines = new int[NINE];
        /* Used again by each call. */
        private final int[] fewest = new int[MOST_JUMPS];
        private final int[] stood = new int[MOST_TURNS + 1];
        private final boolean[] wins = new boolean[LAST_SQUARE + 1];

        void copyFrom(Told other) {
            jumpRow.copyFrom(other.jumpRow);
            turnRow.copyFrom(other.turnRow);
            steps.copyFrom(other.steps);
            barred.copyFrom(other.barred);
            System.arraycopy(other.nines, 0, nines, 0, NINE);
        }

        int fewestJumps() {
            if (jumpRow.count <= 0) {
                return NONE;
            }
            fewest[0] = 0;
            for (int to = 1; to < jumpRow.count; to++) {
                fewest[to] = NEVER;
                for (int from = 0; from < to; from++) {
                    if (from + jumpRow.values[from] >= to) {
                        fewest[to] = Math.min(fewest[to], fewest[from] + 1);
                    }
                }
            }
            int few = fewest[jumpRow.count - 1];
            return few < NEVER ? few : NONE;
        }

        /** Without a row the last place is NONE by itself. */
        int furthestPlace() {
            int furthest = 0;
            for (int from = 0; from < jumpRow.count && from <= furthest; from++) {
                furthest = Math.max(furthest, from + jumpRow.values[from]);
            }
            return Math.min(furthest, jumpRow.count - 1);
        }

        /** What 0 x, 1 y, 2 how many squares, 3 twice the field. */
        int turned(int what) {
            int x = 0;
            int y = 0;
            int dx = 1;
            int dy = 0;
            int field = 0;
            int squares = stand(0, x, y);
            for (int i = 0; i < turnRow.count; i++) {
                int told = turnRow.values[i];
                if (told == 0) {
                    field += x * (y + dy) - (x + dx) * y;
                    x += dx;
                    y += dy;
                    squares = stand(squares, x, y);
                } else {
                    int left = told == 1 ? 1 : -1;
                    int was = dx;
                    dx = -left * dy;
                    dy = left * was;
                }
            }
            switch (what) {
                case 0:
                    return x;
                case 1:
                    return y;
                case 2:
                    return squares;
                default:
                    return x == 0 && y == 0 ? field : NONE - 999;
            }
        }

        /** How many unlike squares were stood on, that one too. */
        private int stand(int squares, int x, int y) {
            int square = 100 * y + x;
            for (int i = 0; i < squares; i++) {
                if (stood[i] == square) {
                    return squares;
                }
            }
            if (squares > MOST_TURNS) {
                return squares;
            }
            stood[squares] = square;
            return squares + 1;
        }

        private int sumOf(int line) {
            int at = 3 * line;
            return nines[STRAIGHT[at]] + nines[STRAIGHT[at + 1]] + nines[STRAIGHT[at + 2]];
        }

        int linesOfSum(int s) {
            int those = 0;
            for (int line = 0; line < STRAIGHT_LINES; line++) {
                if (sumOf(line) == s) {
                    those++;
                }
            }
            return those;
        }

        int waysToEven() {
            int ways = 0;
            for (int place = 0; place < NINE; place++) {
                int was = nines[place];
                for (int v = 0; v <= MOST_OF_NINE; v++) {
                    nines[place] = v;
                    if (v != was && linesOfSum(sumOf(0)) == STRAIGHT_LINES) {
                        ways++;
                    }
                }
                nines[place] = was;
            }
            return ways;
        }

        int winningStep(int n) {
            workWins(n);
            return barred.has(n) ? NONE : leastStep(n);
        }

        int winningSquares(int n) {
            workWins(n);
            int those = 0;
            for (int square = 0; square <= n && square <= LAST_SQUARE; square++) {
                if (wins[square]) {
                    those++;
                }
            }
            return those;
        }

        private void workWins(int n) {
            for (int square = 0; square <= n && square <= LAST_SQUARE; square++) {
                wins[square] = !barred.has(square) && leastStep(square) != NONE;
            }
        }

        /** The least step to a square from which the other loses; what is won below is known already. */
        private int leastStep(int from) {
            int least = NONE;
            for (int i = 0; i < steps.count; i++) {
                int by = steps.values[i];
                int to = from - by;
                if (to >= 0 && to <= LAST_SQUARE && !barred.has(to) && !wins[to] && (least == NONE || by < least)) {
                    least = by;
                }
            }
            return least;
        }
    }

    /** What is asked in thought of numbers and squares alone. */
    private static final class Numbers {
        private final boolean[] walked = new boolean[WALK_SIDE * WALK_SIDE];
        /* A bit for each number that PARTS have been, 32 to an int. */
        private final int[] been = new int[MOST_PARTS / 32 + 1];

        /** Walks of n steps from the middle that end on a square (NONE: on any). */
        int walksTo(int n, int goal) {
            return walksFrom(walked, WALK_SIDE * WALK_SIDE / 2, n, goal);
        }

        private static int walksFrom(boolean[] walked, int at, int left, int goal) {
            if (at < 0 || at >= walked.length || walked[at]) {
                return 0;
            }
            if (left <= 0) {
                return goal == NONE || goal == at ? 1 : 0;
            }
            walked[at] = true;
            int ways = walksFrom(walked, at + WALK_SIDE, left - 1, goal)
                + walksFrom(walked, at + 1, left - 1, goal)
                + walksFrom(walked, at - WALK_SIDE, left - 1, goal)
                + walksFrom(walked, at - 1, left - 1, goal);
            walked[at] = false;
            return ways;
        }

        /** The greatest least one up to 50 is of 46: x 24335, y 3588. */
        static int leastApart(int d, boolean isX) {
            int x = 2;
            for (int y = 1; y <= 3588; y++) {
                int square = 1 + d * y * y;
                while (x < 30000 && x * x < square) {
                    x++;
                }
                if (x * x == square) {
                    return isX ? x : y;
                }
            }
            return NONE;
        }

        static int cornersUpTo(int n) {
            int those = 0;
            for (int a = 1; a < n; a++) {
                int c = a + 1;
                for (int b = a + 1; b < n && c <= n; b++) {
                    int square = a * a + b * b;
                    while (c <= n && c * c < square) {
                        c++;
                    }
                    if (c <= n && c * c == square) {
                        those++;
                    }
                }
            }
            return those;
        }

        static int cornersAround(int n) {
            int those = 0;
            for (int a = 1; a < n; a++) {
                for (int b = a + 1; a + 2 * b < n; b++) {
                    int c = n - a - b;
                    if (a * a + b * b == c * c) {
                        those++;
                    }
                }
            }
            return those;
        }

        int chainOfParts(int n, boolean isTimes) {
            for (int i = 0; i < been.length; i++) {
                been[i] = 0;
            }
            int is = n;
            for (int times = 0; times <= MOST_PARTS + 1; times++) {
                if (is <= 0 || is > MOST_PARTS || (been[is >> 5] >> (is & 31) & 1) == 1) {
                    return isTimes ? times : is;
                }
                been[is >> 5] |= 1 << (is & 31);
                is = sumOfParts(is);
            }
            return NONE;
        }

        private static int sumOfParts(int n) {
            int sum = n > 1 ? 1 : 0;
            for (int part = 2; part * part <= n; part++) {
                if (n % part == 0) {
                    sum += part * part == n ? part : part + n / part;
                }
            }
            return sum;
        }

        static int lasting(int n, boolean isMultiplied, boolean isTimes) {
            int is = n;
            int times = 0;
            while (is > 9 && times < 1000) {
                is = ofDigits(is, isMultiplied);
                times++;
            }
            return isTimes ? times : is;
        }

        private static int ofDigits(int n, boolean isMultiplied) {
            int all = isMultiplied ? 1 : 0;
            for (int rest = n; rest > 0; rest /= 10) {
                all = isMultiplied ? all * (rest % 10) : all + rest % 10;
            }
            return all;
        }

        /** The 64 squares are the bits of a long: a black one is set. */
        static int antWalk(int n, boolean isWhere) {
            long black = 0;
            int x = 3;
            int y = 3;
            int dx = 0;
            int dy = -1;
            for (int i = 0; i < n; i++) {
                int square = 8 * y + x;
                int right = (black >>> square & 1) == 0 ? 1 : -1;
                int was = dx;
                dx = -right * dy;
                dy = right * was;
                black ^= 1L << square;
                x = x + dx & 7;
                y = y + dy & 7;
            }
            return isWhere ? 8 * y + x : Long.bitCount(black);
        }

        static int nextRow(int bits, int rule) {
            int next = 0;
            for (int i = 0; i < ROW_BITS; i++) {
                int higher = bits >> (i + 1) % ROW_BITS & 1;
                int lower = bits >> (i + ROW_BITS - 1) % ROW_BITS & 1;
                int place = 4 * higher + 2 * (bits >> i & 1) + lower;
                next |= (rule >> place & 1) << i;
            }
            return next;
        }

        /** Seven times bring all four digits that are not alike to 6174; alike ones are 0 at once and stay so. */
        static int ownDifferences(int n, boolean isTimes) {
            int is = n;
            int greatest = n;
            for (int times = 0; times <= 20; times++) {
                greatest = Math.max(greatest, is);
                if (is == SAME_FOR_EVER) {
                    return isTimes ? times : greatest;
                }
                is = ownDifference(is);
            }
            return isTimes ? NONE : greatest;
        }

        private static int ownDifference(int n) {
            int down = 0;
            int up = 0;
            int weight = 1;
            for (int digit = 9; digit >= 0; digit--) {
                int rest = n;
                for (int i = 0; i < 4; i++) {
                    if (rest % 10 == digit) {
                        down = down * 10 + digit;
                        up += digit * weight;
                        weight *= 10;
                    }
                    rest /= 10;
                }
            }
            return down - up;
        }

        static int shifted(int w, int taps, int v, int n) {
            int is = v;
            for (int i = 0; i < n; i++) {
                int odd = Integer.bitCount(is & taps) & 1;
                is = is >> 1 | odd << w - 1;
            }
            return is;
        }

        static int timesRound(int w, int taps, int v) {
            int is = v;
            for (int times = 1; times <= 1 << w; times++) {
                is = shifted(w, taps, is, 1);
                if (is == v) {
                    return times;
                }
            }
            return NONE;
        }
    }
}
