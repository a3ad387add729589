import java.util.Arrays;
import java.util.NoSuchElementException;

/** A year as a knot: what is tied on a line, and whether it comes out when it is pulled. */
public final class YearKnot {
    public static final int NONE = -1;

    private static final int OTHERS = -2;
    private static final int MOST_FOLK = 6;
    private static final int MOST_TIES = 24;
    private static final int MOST_LINES = 40;
    private static final int MOST_MARKS = 4;
    private static final int MOST_SEARCHED = 14;
    private static final int MOST_IN_RING = 10;
    private static final int MOST_SLACK = 5;
    private static final int MOST_SEED = 9999;
    private static final int MOST_YEARS = 40;

    private final Tape tape;
    private Net net;
    private Net spareNet;
    private final Row heard;
    private final Shelf now;
    private final Shelf[] marks;
    private final Past past;
    private final Pile pile;
    private final Row knot;
    private final Row second;
    private final Trials trials;
    private final Cutter cutter;
    private final Orders placings;
    private final Rings rings;

    public YearKnot() {
        tape = new Tape();
        net = new Net();
        spareNet = new Net();
        heard = new Row(MOST_LINES);
        now = new Shelf();
        marks = new Shelf[MOST_MARKS];
        for (int i = 0; i < MOST_MARKS; i++) {
            marks[i] = new Shelf();
        }
        past = new Past();
        pile = new Pile(4 * MOST_TIES);
        knot = new Row(MOST_TIES);
        second = new Row(MOST_TIES);
        trials = new Trials();
        cutter = new Cutter();
        placings = new Orders();
        rings = new Rings();
    }

    public int feed(long a, long b, long c) {
        tape.addBytes(a);
        tape.addBytes(b);
        tape.addBytes(c);
        return tape.size;
    }

    public int net() {
        tape.begin();
        boolean good = spareNet.readNet(tape);
        if (good) {
            Net old = net;
            net = spareNet;
            spareNet = old;
            now.clear();
            past.clear();
            for (int i = 0; i < MOST_MARKS; i++) {
                marks[i].laid = false;
            }
        }
        return tape.finish(good);
    }

    public int year() {
        tape.begin();
        boolean good = net.readLines(tape, heard, MOST_LINES, true);
        if (good) {
            now.year.copyFrom(heard);
        }
        return tape.finish(good);
    }

    public int other() {
        tape.begin();
        boolean good = net.readLines(tape, heard, MOST_TIES, false);
        if (good) {
            now.other.copyFrom(heard);
        }
        return tape.finish(good);
    }

    public int folk(int folk, int what) {
        if (!net.hasFolk(folk)) {
            return NONE;
        }
        if (what == 0) {
            return net.kinds[folk];
        }
        return what == 1 ? net.kin[folk] : NONE;
    }

    public int tie(int folk, boolean over) {
        if (!net.hasFolk(folk)) {
            return NONE;
        }
        int one = 2 * folk + (over ? 0 : 1);
        if (!net.canTie(now.line, one)) {
            return NONE;
        }
        past.keep(now.line);
        now.line.add(one);
        return now.line.size;
    }

    public int cut(int place) {
        if (place < 0 || place >= now.line.size) {
            return NONE;
        }
        past.keep(now.line);
        now.line.takeOut(place);
        now.aheads = 0;
        return now.line.size;
    }

    public int pull() {
        pile.layForm(net, now.line, knot);
        if (knot.isLike(now.line)) {
            return NONE;
        }
        past.keep(now.line);
        now.line.copyFrom(knot);
        now.aheads = 0;
        return now.line.size;
    }

    public boolean undo() {
        if (past.size == 0) {
            return false;
        }
        past.giveBack(now.line);
        now.aheads = 0;
        return true;
    }

    public int judged(int what) {
        if (what < 0 || what > 2) {
            return OTHERS;
        }
        trials.judge(net, now.year);
        return trials.answer(what);
    }

    public int at(int place) {
        return now.line.tieAt(place);
    }

    public int form(int place) {
        pile.layForm(net, now.line, knot);
        return knot.tieAt(place);
    }

    public boolean out() {
        pile.lay(net, now.line);
        return pile.size == 0;
    }

    public int held() {
        pile.lay(net, now.line);
        return pile.folkBits();
    }

    public int fault() {
        int tied = now.line.folkBits();
        int bits = 0;
        for (int f = 0; f < net.folks; f++) {
            boolean has = (tied >> f & 1) != 0;
            if (has && comesOutOf(~(1 << f))) {
                bits |= 1 << f;
            }
        }
        return bits;
    }

    public int sum(int folk) throws NoSuchElementException {
        if (!net.hasFolk(folk)) {
            throw new NoSuchElementException();
        }
        int total = 0;
        for (int i = 0; i < now.line.size; i++) {
            int one = now.line.ties[i];
            if (Row.folkOf(one) == folk) {
                total += Row.countOf(one);
            }
        }
        return net.rounded(folk, total);
    }

    public int shown() {
        for (int f = 0; f < net.folks; f++) {
            for (int g = f; g < net.folks; g++) {
                if ((net.stops[f] >> g & 1) != 0 && !comesOutOf(1 << f | 1 << g)) {
                    return f * MOST_FOLK + g;
                }
            }
        }
        return NONE;
    }

    public int loose(int what) {
        if (what < 0 || what > 1) {
            return OTHERS;
        }
        int most = 0;
        int from = NONE;
        for (int start = 0; start < now.line.size; start++) {
            int here = mostOutFrom(start);
            if (here > most) {
                most = here;
                from = start;
            }
        }
        return what == 0 ? most : from;
    }

    public int yet(int what) {
        pile.clear();
        pile.pushAgainst(net, now.line);
        pile.writeForm(net, knot);
        if (what == NONE) {
            return knot.size;
        }
        return what < 0 || what >= knot.size ? OTHERS : knot.tieAt(what);
    }

    public int cuts() {
        return now.line.size > MOST_SEARCHED ? NONE : cutter.fewest(net, now.line);
    }

    public boolean ahead(int place, int other) {
        int size = now.line.size;
        if (place < 0 || place >= size || other < 0 || other >= size || place == other) {
            return false;
        }
        return now.addAhead(place, other);
    }

    public long orders() {
        return placings.prepare(net, now) ? placings.all() : NONE;
    }

    public int ask() {
        return placings.prepare(net, now) ? placings.bestToAsk() : NONE;
    }

    public boolean same() {
        pile.lay(net, now.line);
        pile.pushAgainst(net, now.other);
        return pile.size == 0;
    }

    public boolean pass() {
        pile.lay(net, now.line);
        pile.pushRow(net, now.other);
        pile.pushAgainst(net, now.line);
        pile.pushAgainst(net, now.other);
        return pile.size == 0;
    }

    public int ring() {
        pile.layForm(net, now.line, knot);
        pile.layForm(net, now.other, second);
        if (knot.size > MOST_IN_RING || second.size > MOST_IN_RING) {
            return NONE;
        }
        return rings.areOne(net, knot, second) ? 1 : 0;
    }

    public int rests(int needs, int gets, int loses, int what) throws NoSuchElementException {
        boolean told = needs >= 0 && needs <= 2 * MOST_SLACK && gets >= 0 && gets <= 9 && loses >= 0 && loses <= 9;
        if (!told || what < NONE) {
            throw new NoSuchElementException();
        }
        int found = 0;
        for (int one = 0; one <= MOST_SLACK; one++) {
            for (int two = 0; two <= MOST_SLACK; two++) {
                boolean rest = isBest(one, two, needs, gets, loses) && isBest(two, one, needs, gets, loses);
                if (rest && found == what) {
                    return 10 * one + two;
                }
                found += rest ? 1 : 0;
            }
        }
        if (what != NONE) {
            throw new NoSuchElementException();
        }
        return found;
    }

    public int centuries(int seed, int years, int what) {
        if (seed < 0 || seed > MOST_SEED || years < 1 || years > MOST_YEARS || what < 0 || what > 2) {
            return NONE;
        }
        trials.drawYears(net, seed, years);
        return trials.answer(what);
    }

    public boolean mark(int mark, boolean back) {
        if (mark < 0 || mark >= MOST_MARKS) {
            return false;
        }
        Shelf shelf = marks[mark];
        if (!back) {
            shelf.copyFrom(now);
            shelf.laid = true;
            return true;
        }
        if (!shelf.laid) {
            return false;
        }
        now.copyFrom(shelf);
        past.clear();
        return true;
    }

    public int count(int what) {
        switch (what) {
            case 0:
                return net.folks;
            case 1:
                return net.pairs;
            case 2:
                return net.line;
            case 3:
                return net.rope;
            case 4:
                return net.usedBy(now.line);
            case 5:
                return now.line.size;
            case 6:
                pile.layForm(net, now.line, knot);
                return knot.size;
            case 7:
                return now.year.size;
            case 8:
                return now.other.size;
            case 9:
                return now.aheads;
            case 10:
                return past.size;
            case 11:
                return tape.size;
            default:
                return NONE;
        }
    }

    private boolean comesOutOf(int folkBits) {
        pile.clear();
        for (int i = 0; i < now.line.size; i++) {
            int one = now.line.ties[i];
            if ((folkBits >> Row.folkOf(one) & 1) != 0) {
                pile.pushTie(net, one);
            }
        }
        return pile.size == 0;
    }

    private int mostOutFrom(int start) {
        int most = 0;
        pile.clear();
        for (int i = Math.max(start, 0); i < now.line.size; i++) {
            pile.pushTie(net, now.line.ties[i]);
            if (pile.size == 0) {
                most = i - start + 1;
            }
        }
        return most;
    }

    private static boolean isBest(int own, int others, int needs, int gets, int loses) {
        int here = gain(own, others, needs, gets, loses);
        for (int instead = 0; instead <= MOST_SLACK; instead++) {
            if (gain(instead, others, needs, gets, loses) > here) {
                return false;
            }
        }
        return true;
    }

    private static int gain(int own, int others, int needs, int gets, int loses) {
        return (own + others >= needs ? gets : 0) - loses * own;
    }

    /** The TAPE: its signs, and while it is read its tokens with the one at hand. */
    private static final class Tape {
        static final int ROOM = 1000;
        static final int FOLK = 0;
        static final int KIN = 1;
        static final int LINE = 2;
        static final int ROPE = 3;
        static final int TAKES = 4;
        static final int OVER = 5;
        static final int UNDER = 6;
        static final int CUT = 7;
        static final int PULL = 8;
        static final int BEND = 9;
        static final int NOT = 13;
        static final int AND = 14;
        static final int OR = 15;
        static final int PLACE = 16;
        static final int SORT = 17;
        static final int KINS = 18;
        static final int BELOW = 19;
        static final int NAME = 20;
        static final int NUMBER = 21;
        static final int END = 22;
        static final int NO_TOKEN = 23;

        // A token of one sign is that sign's number: all of these lie above NO_TOKEN.
        private static final String SIGNS = "()<=+-*;";
        private static final String WORDS =
                "folk kin  line rope takesover undercut  pull bend slip hitchwar  not  and  or   placesort kins below";
        private static final int WORD_WIDTH = 5;
        private static final int LONGEST_WORD = 8;
        private static final int LONGEST_NUMBER = 4;

        private final byte[] signs;
        int size;
        private final int[] tokens;
        private final int[] starts;
        private final long[] values;
        private int count;
        private int here;
        private int fault;

        Tape() {
            signs = new byte[ROOM];
            tokens = new int[ROOM + 1];
            starts = new int[ROOM + 1];
            values = new long[ROOM + 1];
        }

        void addBytes(long eight) {
            for (int shift = 56; shift >= 0; shift -= 8) {
                int sign = (int) (eight >> shift & 255);
                boolean fits = sign == 10 || sign >= 32 && sign <= 126;
                if (fits && size < ROOM) {
                    signs[size] = (byte) sign;
                    size++;
                }
            }
        }

        /** Lays the tokens out; the END stands behind the last of them. */
        void begin() {
            count = 0;
            here = 0;
            fault = 0;
            int place = 0;
            while (place < size) {
                int sign = signs[place];
                int end = place + 1;
                if (isLetter(sign)) {
                    end = readWord(place);
                } else if (isDigit(sign)) {
                    end = readNumber(place);
                } else if (sign != 10 && sign != 32) {
                    lay(SIGNS.indexOf((char) sign) >= 0 ? sign : NO_TOKEN, place, 0);
                }
                place = end > place ? end : place + 1;
            }
            lay(END, size, 0);
        }

        /** What is read is gone: the answer is 0, or the FAULT. */
        int finish(boolean good) {
            size = 0;
            return good ? 0 : fault;
        }

        int token() {
            return here < count ? tokens[here] : END;
        }

        int number() {
            return (int) name();
        }

        long name() {
            return here < count ? values[here] : 0;
        }

        void step() {
            if (here + 1 < count) {
                here++;
            }
        }

        boolean wrong(int kind) {
            fault = kind + 16 * (here < count ? starts[here] : size);
            return false;
        }

        boolean expect(int wanted) {
            if (token() != wanted) {
                return wrong(1);
            }
            step();
            return true;
        }

        // The names of the facts are no words of the language's own: FOLK may bear them.
        boolean isName() {
            int one = token();
            return one == NAME || one >= PLACE && one <= BELOW;
        }

        boolean isFact() {
            int one = token();
            return one >= PLACE && one <= BELOW;
        }

        private void lay(int token, int start, long value) {
            if (count <= ROOM) {
                tokens[count] = token;
                starts[count] = start;
                values[count] = value;
                count++;
            }
        }

        private int readWord(int start) {
            int end = start;
            long letters = 0;
            while (end < size && isLetter(signs[end])) {
                letters = letters * 32 + (signs[end] - 'a' + 1);
                end++;
            }
            lay(end - start > LONGEST_WORD ? NO_TOKEN : wordAt(start, end - start), start, letters);
            return end;
        }

        private int readNumber(int start) {
            int end = start;
            long told = 0;
            while (end < size && isDigit(signs[end])) {
                told = told * 10 + (signs[end] - '0');
                end++;
            }
            lay(end - start > LONGEST_NUMBER ? NO_TOKEN : NUMBER, start, told);
            return end;
        }

        private int wordAt(int start, int length) {
            for (int word = FOLK; word <= BELOW && length <= WORD_WIDTH; word++) {
                if (isWord(word, start, length)) {
                    return word;
                }
            }
            return NAME;
        }

        private boolean isWord(int word, int start, int length) {
            for (int i = 0; i < WORD_WIDTH; i++) {
                int sign = i < length && start + i < size ? signs[start + i] : ' ';
                if (WORDS.charAt(word * WORD_WIDTH + i) != sign) {
                    return false;
                }
            }
            return true;
        }

        private static boolean isLetter(int sign) {
            return sign >= 'a' && sign <= 'z';
        }

        private static boolean isDigit(int sign) {
            return sign >= '0' && sign <= '9';
        }
    }

    /** The E of takes, kept with each sign behind what it joins. */
    private static final class Law {
        private static final int DEEP = 64;
        private static final int MOST_WITHIN = 5;

        // A NUMBER stands for itself; any other token is kept below 0.
        private final int[] code;
        private int size;
        private final int[] waiting;
        private int waits;
        private int within;
        private int brackets;
        private boolean partIsDue;
        private final int[] stack;

        Law() {
            code = new int[Tape.ROOM];
            waiting = new int[DEEP];
            stack = new int[DEEP];
        }

        boolean isTold() {
            return size > 0;
        }

        void clear() {
            size = 0;
            waits = 0;
            within = 0;
            brackets = 0;
            partIsDue = true;
        }

        boolean readLaw(Tape tape) {
            clear();
            for (int n = 0; n <= Tape.ROOM; n++) {
                if (!partIsDue && brackets == 0 && tape.token() == ';') {
                    release(1);
                    return true;
                }
                boolean good = partIsDue ? readPart(tape) : readJoint(tape);
                if (!good) {
                    return false;
                }
                tape.step();
            }
            return tape.wrong(1);
        }

        private boolean readPart(Tape tape) {
            boolean opens = tape.token() == Tape.NOT || tape.token() == '(';
            boolean isNumber = tape.token() == Tape.NUMBER;
            if (!opens && !isNumber && !tape.isFact()) {
                return tape.wrong(1);
            }
            if (within >= MOST_WITHIN) {
                return tape.wrong(5);
            }
            if (opens) {
                await(tape.token());
                within++;
                brackets += tape.token() == '(' ? 1 : 0;
            } else {
                put(isNumber ? tape.number() : -tape.token());
                endPart();
            }
            return true;
        }

        private boolean readJoint(Tape tape) {
            if (tape.token() == ')' && brackets > 0) {
                release(1);
                waits--;
                within--;
                brackets--;
                endPart();
                return true;
            }
            int rank = rankOf(tape.token());
            if (rank == 0) {
                return tape.wrong(1);
            }
            boolean compares = rank == 2;
            release(compares ? 3 : rank);
            if (compares && rankOf(last()) == 2) {
                return tape.wrong(1);
            }
            await(tape.token());
            partIsDue = true;
            return true;
        }

        // A not holds for the one PART behind it, before any other sign does.
        private void endPart() {
            while (waits > 0 && last() == Tape.NOT) {
                put(-Tape.NOT);
                waits--;
                within--;
            }
            partIsDue = false;
        }

        private void release(int least) {
            while (waits > 0 && rankOf(last()) >= least) {
                put(-last());
                waits--;
            }
        }

        private int last() {
            return waits > 0 && waits <= DEEP ? waiting[waits - 1] : Tape.END;
        }

        private void await(int token) {
            if (waits >= 0 && waits < DEEP) {
                waiting[waits] = token;
                waits++;
            }
        }

        private void put(int one) {
            if (size < Tape.ROOM) {
                code[size] = one;
                size++;
            }
        }

        private static int rankOf(int token) {
            switch (token) {
                case Tape.AND:
                case Tape.OR:
                    return 1;
                case '<':
                case '=':
                    return 2;
                case '+':
                case '-':
                    return 3;
                case '*':
                    return 4;
                default:
                    return 0;
            }
        }

        int worth(int place, int sort, int kins, int below) {
            int top = 0;
            for (int i = 0; i < size; i++) {
                int one = code[i];
                if (one == -Tape.NOT) {
                    set(top - 1, get(top - 1) == 0 ? 1 : 0);
                } else if (rankOf(-one) > 0) {
                    top--;
                    set(top - 1, joined(-one, get(top - 1), get(top)));
                } else {
                    set(top, one >= 0 ? one : fact(-one, place, sort, kins, below));
                    top++;
                }
            }
            return get(0);
        }

        private void set(int slot, int value) {
            if (slot >= 0 && slot < DEEP) {
                stack[slot] = value;
            }
        }

        private int get(int slot) {
            return slot >= 0 && slot < DEEP ? stack[slot] : 0;
        }

        private static int fact(int token, int place, int sort, int kins, int below) {
            switch (token) {
                case Tape.PLACE:
                    return place;
                case Tape.SORT:
                    return sort;
                case Tape.KINS:
                    return kins;
                default:
                    return below;
            }
        }

        private static int joined(int token, int a, int b) {
            switch (token) {
                case '+':
                    return a + b;
                case '-':
                    return a - b;
                case '*':
                    return a * b;
                case '<':
                    return a < b ? 1 : 0;
                case '=':
                    return a == b ? 1 : 0;
                case Tape.AND:
                    return a != 0 && b != 0 ? 1 : 0;
                default:
                    return a != 0 || b != 0 ? 1 : 0;
            }
        }
    }

    /** FOLK, who is kin, how long the line and the rope are, and what a tie takes. */
    private static final class Net {
        private static final int SORTS_OF_TIES = 2 * MOST_FOLK;
        private static final int MOST_TAKEN = 99;
        private static final int MOST_ROPE = 999;
        private static final int FIRST_ROPE = 200;
        // Of each KIND.
        private static final int[] ROUNDS = {0, 2, 3, 4};

        private final long[] names;
        final int[] kinds;
        final int[] kin;
        // Of each FOLK, as bits: whose ties its own can't change places with.
        final int[] stops;
        // Of each FOLK: by how many its ties count for 0; 0: by none.
        final int[] rounds;
        int folks;
        int pairs;
        int line;
        int rope;
        private boolean lineTold;
        private boolean ropeTold;
        private final Law law;
        // What each tie takes, by places.
        private final int[] taken;

        Net() {
            names = new long[MOST_FOLK];
            kinds = new int[MOST_FOLK];
            kin = new int[MOST_FOLK];
            stops = new int[MOST_FOLK];
            rounds = new int[MOST_FOLK];
            law = new Law();
            taken = new int[MOST_TIES * SORTS_OF_TIES];
            clear();
        }

        private void clear() {
            Arrays.fill(kin, 0);
            Arrays.fill(stops, 0);
            folks = 0;
            pairs = 0;
            line = MOST_TIES;
            rope = FIRST_ROPE;
            lineTold = false;
            ropeTold = false;
            law.clear();
        }

        boolean hasFolk(int folk) {
            return folk >= 0 && folk < folks;
        }

        int rounded(int folk, int total) {
            int round = hasFolk(folk) ? rounds[folk] : 0;
            return round > 0 ? Math.floorMod(total, round) : total;
        }

        /** All who are bound to a FOLK by kin, kin of kin and so on, among some FOLK. */
        int partyOf(int folk, int among) {
            int party = 1 << folk;
            for (int round = 0; round < MOST_FOLK; round++) {
                for (int f = 0; f < MOST_FOLK; f++) {
                    if ((party >> f & 1) != 0) {
                        party |= kin[f] & among;
                    }
                }
            }
            return party;
        }

        boolean canTie(Row row, int one) {
            return row.size < line && usedBy(row) + takenBy(row.size, one) <= rope;
        }

        int usedBy(Row row) {
            int used = 0;
            for (int i = 0; i < row.size; i++) {
                used += takenBy(i, row.ties[i]);
            }
            return used;
        }

        private int takenBy(int place, int one) {
            int slot = place * SORTS_OF_TIES + one;
            return slot >= 0 && slot < taken.length ? taken[slot] : 0;
        }

        private void layTaken() {
            for (int place = 0; place < line; place++) {
                for (int one = 0; one < 2 * folks; one++) {
                    int folk = Row.folkOf(one);
                    int kind = kinds[folk];
                    int worth = 1 + kind;
                    if (law.isTold()) {
                        worth = law.worth(place, kind, Integer.bitCount(kin[folk]), one & 1);
                    }
                    taken[place * SORTS_OF_TIES + one] = Math.max(0, Math.min(MOST_TAKEN, worth));
                }
            }
        }

        boolean readNet(Tape tape) {
            clear();
            for (int n = 0; n <= Tape.ROOM && tape.token() != Tape.END; n++) {
                if (!readClause(tape)) {
                    return false;
                }
            }
            layTaken();
            return true;
        }

        private boolean readClause(Tape tape) {
            switch (tape.token()) {
                case Tape.FOLK:
                    return readFolk(tape);
                case Tape.KIN:
                    return readKin(tape);
                case Tape.LINE:
                    return readLine(tape);
                case Tape.ROPE:
                    return readRope(tape);
                case Tape.TAKES:
                    return readTakes(tape);
                default:
                    return tape.wrong(1);
            }
        }

        private boolean readFolk(Tape tape) {
            if (folks >= MOST_FOLK) {
                return tape.wrong(5);
            }
            tape.step();
            if (!tape.isName()) {
                return tape.wrong(1);
            }
            if (folkNamed(tape.name()) != NONE) {
                return tape.wrong(3);
            }
            names[folks] = tape.name();
            tape.step();
            int kind = tape.token() - Tape.BEND;
            if (kind < 0 || kind >= ROUNDS.length) {
                return tape.wrong(1);
            }
            kinds[folks] = kind;
            rounds[folks] = ROUNDS[kind];
            stops[folks] = 1 << folks;
            folks++;
            tape.step();
            return tape.expect(';');
        }

        private boolean readKin(Tape tape) {
            tape.step();
            int one = nameHere(tape);
            if (one == NONE) {
                return false;
            }
            tape.step();
            int two = nameHere(tape);
            if (two == NONE) {
                return false;
            }
            if ((stops[one] >> two & 1) != 0) {
                return tape.wrong(3);
            }
            kin[one] |= 1 << two;
            kin[two] |= 1 << one;
            stops[one] |= 1 << two;
            stops[two] |= 1 << one;
            pairs++;
            tape.step();
            return tape.expect(';');
        }

        private boolean readLine(Tape tape) {
            if (lineTold) {
                return tape.wrong(3);
            }
            tape.step();
            int told = readNumber(tape, 1, MOST_TIES);
            lineTold = true;
            line = told;
            return told != NONE && tape.expect(';');
        }

        private boolean readRope(Tape tape) {
            if (ropeTold) {
                return tape.wrong(3);
            }
            tape.step();
            int told = readNumber(tape, 0, MOST_ROPE);
            ropeTold = true;
            rope = told;
            return told != NONE && tape.expect(';');
        }

        private boolean readTakes(Tape tape) {
            if (law.isTold()) {
                return tape.wrong(3);
            }
            tape.step();
            return law.readLaw(tape) && tape.expect(';');
        }

        /** A YEAR (with what is done by hand) or OTHER (without). */
        boolean readLines(Tape tape, Row row, int most, boolean byHand) {
            row.clear();
            for (int n = 0; n <= most && tape.token() != Tape.END; n++) {
                if (!readYearLine(tape, row, most, byHand)) {
                    return false;
                }
            }
            return true;
        }

        private boolean readYearLine(Tape tape, Row row, int most, boolean byHand) {
            int first = tape.token();
            boolean isHand = byHand && (first == Tape.CUT || first == Tape.PULL);
            int folk = isHand ? NONE : nameHere(tape);
            if (!isHand && folk == NONE) {
                return false;
            }
            if (row.size >= most) {
                return tape.wrong(5);
            }
            tape.step();
            int one = Row.PULL;
            if (!isHand) {
                one = readSide(tape, folk);
            } else if (first == Tape.CUT) {
                int place = readNumber(tape, 0, MOST_TIES - 1);
                one = place == NONE ? NONE : Row.CUT + place;
            }
            if (one == NONE || !tape.expect(';')) {
                return false;
            }
            row.add(one);
            return true;
        }

        private static int readSide(Tape tape, int folk) {
            boolean over = tape.token() == Tape.OVER;
            if (!over && tape.token() != Tape.UNDER) {
                tape.wrong(1);
                return NONE;
            }
            tape.step();
            return 2 * folk + (over ? 0 : 1);
        }

        private static int readNumber(Tape tape, int least, int most) {
            if (tape.token() != Tape.NUMBER) {
                tape.wrong(1);
                return NONE;
            }
            if (tape.number() < least || tape.number() > most) {
                tape.wrong(4);
                return NONE;
            }
            int told = tape.number();
            tape.step();
            return told;
        }

        private int nameHere(Tape tape) {
            if (!tape.isName()) {
                tape.wrong(1);
                return NONE;
            }
            int folk = folkNamed(tape.name());
            if (folk == NONE) {
                tape.wrong(2);
            }
            return folk;
        }

        private int folkNamed(long name) {
            for (int f = 0; f < folks; f++) {
                if (names[f] == name) {
                    return f;
                }
            }
            return NONE;
        }
    }

    /** Ties in a row, each 2 * FOLK, and 1 more if it is under; or the lines of a YEAR. */
    private static final class Row {
        static final int CUT = 100;
        static final int PULL = 200;

        final int[] ties;
        int size;

        Row(int room) {
            ties = new int[room > 0 ? room : 0];
        }

        static int folkOf(int one) {
            return one >> 1;
        }

        static int countOf(int one) {
            return (one & 1) == 0 ? 1 : -1;
        }

        void clear() {
            size = 0;
        }

        int tieAt(int place) {
            return place >= 0 && place < size ? ties[place] : NONE;
        }

        void add(int one) {
            if (size < ties.length) {
                ties[size] = one;
                size++;
            }
        }

        void takeOut(int place) {
            if (place < 0 || place >= size) {
                return;
            }
            for (int i = place; i + 1 < size; i++) {
                ties[i] = ties[i + 1];
            }
            size--;
        }

        void copyFrom(Row row) {
            size = Math.min(row.size, ties.length);
            System.arraycopy(row.ties, 0, ties, 0, size);
        }

        boolean isLike(Row row) {
            if (size != row.size) {
                return false;
            }
            for (int i = 0; i < size; i++) {
                if (ties[i] != row.ties[i]) {
                    return false;
                }
            }
            return true;
        }

        int folkBits() {
            int bits = 0;
            for (int i = 0; i < size; i++) {
                bits |= 1 << folkOf(ties[i]);
            }
            return bits;
        }
    }

    /**
     * A KNOT as bundles: a FOLK, and what its ties there count for, never 0. No two bundles of one
     * FOLK can be brought beside one another, so it is empty just when the KNOT COMES OUT.
     */
    private static final class Pile {
        final int[] folk;
        final int[] counts;
        private final boolean[] written;
        int size;

        Pile(int room) {
            int most = room > 0 ? room : 0;
            folk = new int[most];
            counts = new int[most];
            written = new boolean[most];
        }

        void clear() {
            size = 0;
        }

        void copyFrom(Pile pile) {
            size = Math.min(pile.size, folk.length);
            System.arraycopy(pile.folk, 0, folk, 0, size);
            System.arraycopy(pile.counts, 0, counts, 0, size);
        }

        void lay(Net net, Row row) {
            clear();
            pushRow(net, row);
        }

        /** Lays a row out and writes its FORM. */
        void layForm(Net net, Row row, Row form) {
            clear();
            pushRow(net, row);
            writeForm(net, form);
        }

        void pushRow(Net net, Row row) {
            for (int i = 0; i < row.size; i++) {
                push(net, Row.folkOf(row.ties[i]), Row.countOf(row.ties[i]));
            }
        }

        /** What undoes a row: its ties from the last to the first, each the other way. */
        void pushAgainst(Net net, Row row) {
            for (int i = row.size - 1; i >= 0; i--) {
                push(net, Row.folkOf(row.ties[i]), -Row.countOf(row.ties[i]));
            }
        }

        void pushTie(Net net, int one) {
            push(net, Row.folkOf(one), Row.countOf(one));
        }

        void push(Net net, int whose, int count) {
            if (!net.hasFolk(whose)) {
                return;
            }
            int stops = net.stops[whose];
            int place = size - 1;
            while (place >= 0 && (stops >> folk[place] & 1) == 0) {
                place--;
            }
            boolean joins = place >= 0 && folk[place] == whose;
            int total = joins ? counts[place] + count : count;
            int round = net.rounds[whose];
            if (round > 0) {
                total = Math.floorMod(total, round);
            }
            if (!joins) {
                append(whose, total);
            } else if (total == 0) {
                takeOut(place);
            } else {
                counts[place] = total;
            }
        }

        private void append(int whose, int count) {
            if (size < folk.length && count != 0) {
                folk[size] = whose;
                counts[size] = count;
                size++;
            }
        }

        private void takeOut(int place) {
            for (int i = place; i + 1 < size; i++) {
                folk[i] = folk[i + 1];
                counts[i] = counts[i + 1];
            }
            size--;
        }

        int folkBits() {
            int bits = 0;
            for (int i = 0; i < size; i++) {
                bits |= 1 << folk[i];
            }
            return bits;
        }

        int bundlesOf(int whose) {
            int found = 0;
            for (int i = 0; i < size; i++) {
                found += folk[i] == whose ? 1 : 0;
            }
            return found;
        }

        int firstOf(int whose) {
            for (int i = 0; i < size; i++) {
                if (folk[i] == whose) {
                    return i;
                }
            }
            return NONE;
        }

        /** The fewest ties of a bundle: as many over ones, or below 0 as many under ones. */
        int tiesIn(Net net, int place) {
            if (place < 0 || place >= size) {
                return 0;
            }
            int round = net.rounds[folk[place]];
            int count = counts[place];
            return round > 0 && 2 * count > round ? count - round : count;
        }

        void writeForm(Net net, Row row) {
            row.clear();
            for (int i = 0; i < size; i++) {
                written[i] = false;
            }
            for (int n = 0; n < size; n++) {
                int place = leastInFront(net);
                if (place != NONE) {
                    written[place] = true;
                    writeBundle(net, place, row);
                }
            }
        }

        private int leastInFront(Net net) {
            int stopped = 0;
            int least = NONE;
            for (int i = 0; i < size; i++) {
                if (!written[i]) {
                    boolean free = (stopped >> folk[i] & 1) == 0;
                    if (free && (least == NONE || folk[i] < folk[least])) {
                        least = i;
                    }
                    stopped |= net.stops[folk[i]];
                }
            }
            return least;
        }

        private void writeBundle(Net net, int place, Row row) {
            int count = tiesIn(net, place);
            int one = 2 * folk[place] + (count < 0 ? 1 : 0);
            for (int n = Math.abs(count); n > 0; n--) {
                row.add(one);
            }
        }
    }

    /** The LINE, the YEAR, OTHER and what is AHEAD: now, or on a MARK. */
    private static final class Shelf {
        private static final int MOST_AHEADS = 8;

        final Row line;
        final Row year;
        final Row other;
        final int[] earlier;
        final int[] later;
        int aheads;
        boolean laid;

        Shelf() {
            line = new Row(MOST_TIES);
            year = new Row(MOST_LINES);
            other = new Row(MOST_TIES);
            earlier = new int[MOST_AHEADS];
            later = new int[MOST_AHEADS];
        }

        void clear() {
            line.clear();
            year.clear();
            other.clear();
            aheads = 0;
        }

        boolean addAhead(int place, int behind) {
            if (aheads >= MOST_AHEADS) {
                return false;
            }
            earlier[aheads] = place;
            later[aheads] = behind;
            aheads++;
            return true;
        }

        void copyFrom(Shelf shelf) {
            line.copyFrom(shelf.line);
            year.copyFrom(shelf.year);
            other.copyFrom(shelf.other);
            System.arraycopy(shelf.earlier, 0, earlier, 0, MOST_AHEADS);
            System.arraycopy(shelf.later, 0, later, 0, MOST_AHEADS);
            aheads = shelf.aheads;
        }
    }

    /** The LINE as it was before each of the last things done by hand. */
    private static final class Past {
        private static final int MOST_KEPT = 16;

        private final Row[] rows;
        private int oldest;
        int size;

        Past() {
            rows = new Row[MOST_KEPT];
            for (int i = 0; i < MOST_KEPT; i++) {
                rows[i] = new Row(MOST_TIES);
            }
        }

        void clear() {
            size = 0;
        }

        void keep(Row row) {
            rows[Math.floorMod(oldest + size, MOST_KEPT)].copyFrom(row);
            if (size < MOST_KEPT) {
                size++;
            } else {
                oldest = Math.floorMod(oldest + 1, MOST_KEPT);
            }
        }

        void giveBack(Row row) {
            if (size > 0) {
                size--;
                row.copyFrom(rows[Math.floorMod(oldest + size, MOST_KEPT)]);
            }
        }
    }

    /** Years that are tried beside the LINE: one that was told, or many that are drawn. */
    private static final class Trials {
        private static final int TIES_DRAWN = 8;

        private final Row row;
        private final Row pulled;
        private final Pile pile;
        private final int[] answers;
        private long drawn;

        Trials() {
            row = new Row(MOST_TIES);
            pulled = new Row(MOST_TIES);
            pile = new Pile(MOST_TIES);
            answers = new int[3];
        }

        int answer(int what) {
            return what >= 0 && what < answers.length ? answers[what] : NONE;
        }

        void judge(Net net, Row year) {
            row.clear();
            answers[0] = NONE;
            answers[1] = NONE;
            for (int i = 0; i < year.size; i++) {
                boolean done = follow(net, year.ties[i]);
                if (!done && answers[0] == NONE) {
                    answers[0] = i;
                }
                pile.lay(net, row);
                if (row.size > 0 && pile.size == 0 && answers[1] == NONE) {
                    answers[1] = i;
                }
            }
            pile.layForm(net, row, pulled);
            answers[2] = pulled.size;
        }

        private boolean follow(Net net, int told) {
            if (told == Row.PULL) {
                pile.layForm(net, row, pulled);
                boolean turns = !pulled.isLike(row);
                row.copyFrom(pulled);
                return turns;
            }
            if (told >= Row.CUT) {
                int before = row.size;
                row.takeOut(told - Row.CUT);
                return row.size < before;
            }
            return followTie(net, told);
        }

        private boolean followTie(Net net, int one) {
            boolean ties = net.canTie(row, one);
            if (ties) {
                row.add(one);
            }
            return ties;
        }

        void drawYears(Net net, int seed, int years) {
            drawn = seed;
            Arrays.fill(answers, 0);
            for (int y = 0; y < years; y++) {
                drawYear(net);
                pile.layForm(net, row, pulled);
                answers[0] += pulled.size == 0 ? 1 : 0;
                answers[1] += pulled.size;
                answers[2] = Math.max(answers[2], pulled.size);
            }
        }

        private void drawYear(Net net) {
            row.clear();
            for (int n = 0; n < TIES_DRAWN && net.folks > 0; n++) {
                int folk = drawBelow(net.folks);
                followTie(net, 2 * folk + drawBelow(2));
            }
        }

        private int drawBelow(int most) {
            drawn = (drawn * 1103515245L + 12345L) & 2147483647L;
            return most > 0 ? (int) (drawn / 65536L) % most : 0;
        }
    }

    /** The search for the fewest cuts. */
    private static final class Cutter {
        private static final int NEVER = 1000;

        // What is kept of the places from each one on.
        private final Pile[] kept;
        // What each FOLK's ties would count for if no more of them were cut.
        private final int[] totals;
        // How many ties of each sort have yet to be looked at.
        private final int[] unseen;
        private final int[] needs;
        private int found;

        Cutter() {
            kept = new Pile[MOST_SEARCHED + 1];
            for (int i = 0; i <= MOST_SEARCHED; i++) {
                kept[i] = new Pile(MOST_SEARCHED);
            }
            totals = new int[MOST_FOLK];
            unseen = new int[2 * MOST_FOLK];
            needs = new int[MOST_FOLK];
        }

        int fewest(Net net, Row row) {
            if (row.size > MOST_SEARCHED) {
                return NONE;
            }
            Arrays.fill(totals, 0);
            Arrays.fill(unseen, 0);
            for (int i = 0; i < row.size; i++) {
                countIn(row.ties[i], 1);
                comeBy(row.ties[i], 1);
            }
            kept[row.size].clear();
            found = 0;
            for (int most = 0; most <= row.size; most++) {
                if (search(net, row, row.size, most, 0)) {
                    break;
                }
            }
            return found;
        }

        // From the last place to the first, and kept before cut: so the least set is met first.
        private boolean search(Net net, Row row, int left, int most, int set) {
            if (left < 0 || left > MOST_SEARCHED || missing(net) > most || isPast(net, kept[left])) {
                return false;
            }
            if (left == 0) {
                found = set;
                return true;
            }
            int one = row.tieAt(left - 1);
            comeBy(one, -1);
            boolean good = searchKept(net, row, left - 1, most, set) || searchCut(net, row, left - 1, most, set);
            comeBy(one, 1);
            return good;
        }

        private boolean searchKept(Net net, Row row, int place, int most, int set) {
            kept[place].copyFrom(kept[place + 1]);
            kept[place].pushTie(net, row.tieAt(place));
            return search(net, row, place, most, set);
        }

        private boolean searchCut(Net net, Row row, int place, int most, int set) {
            kept[place].copyFrom(kept[place + 1]);
            countIn(row.tieAt(place), -1);
            boolean good = search(net, row, place, most - 1, set | 1 << place);
            countIn(row.tieAt(place), 1);
            return good;
        }

        private void countIn(int one, int times) {
            int folk = Row.folkOf(one);
            if (folk >= 0 && folk < MOST_FOLK) {
                totals[folk] += times * Row.countOf(one);
            }
        }

        private void comeBy(int one, int times) {
            if (one >= 0 && one < unseen.length) {
                unseen[one] += times;
            }
        }

        // No fewer cuts than these bring each FOLK's total to 0, and that it must come to.
        private int missing(Net net) {
            int all = 0;
            for (int f = 0; f < net.folks; f++) {
                int total = net.rounded(f, totals[f]);
                if (total != 0) {
                    int round = net.rounds[f];
                    int byOver = total > 0 && unseen[2 * f] >= total ? total : NEVER;
                    int under = round > 0 ? round - total : -total;
                    int byUnder = under > 0 && unseen[2 * f + 1] >= under ? under : NEVER;
                    all += Math.min(byOver, byUnder);
                }
            }
            return all;
        }

        // What is kept is undone by ties of the same FOLK or not at all.
        private boolean isPast(Net net, Pile pile) {
            Arrays.fill(needs, 0);
            for (int i = 0; i < pile.size; i++) {
                int f = pile.folk[i];
                needs[f] += Math.abs(pile.tiesIn(net, i));
                if (needs[f] > unseen[2 * f] + unseen[2 * f + 1]) {
                    return true;
                }
            }
            return false;
        }
    }

    /**
     * The orders in which the LINE can have been tied. Ties of one FOLK keep their order, so what is
     * tied at some time is told by how many each FOLK has tied: a stage.
     */
    private static final class Orders {
        // 14 ties of 6 FOLK have at most 4 * 4 * 3 * 3 * 3 * 3 stages.
        private static final int MOST_STAGES = 1296;

        private final int[] before;
        private final int[] places;
        private final int[] tied;
        private final int[] steps;
        private final int[] done;
        private final long[] waysTo;
        private final long[] waysFrom;
        private final long[] firsts;
        private int ties;
        private int stages;

        Orders() {
            before = new int[MOST_SEARCHED];
            places = new int[MOST_FOLK * MOST_SEARCHED];
            tied = new int[MOST_FOLK];
            steps = new int[MOST_FOLK];
            done = new int[MOST_STAGES];
            waysTo = new long[MOST_STAGES];
            waysFrom = new long[MOST_STAGES];
            firsts = new long[MOST_SEARCHED * MOST_SEARCHED];
        }

        boolean prepare(Net net, Shelf shelf) {
            ties = shelf.line.size;
            if (ties > MOST_SEARCHED) {
                return false;
            }
            layBefore(net, shelf);
            layStages(shelf.line);
            countWays();
            return true;
        }

        private void layBefore(Net net, Shelf shelf) {
            Row line = shelf.line;
            for (int i = 0; i < ties; i++) {
                before[i] = 0;
                int stops = net.stops[Row.folkOf(line.ties[i])];
                for (int j = 0; j < i; j++) {
                    if ((stops >> Row.folkOf(line.ties[j]) & 1) != 0) {
                        before[i] |= 1 << j;
                    }
                }
            }
            for (int n = 0; n < shelf.aheads; n++) {
                int later = shelf.later[n];
                if (later >= 0 && later < ties) {
                    before[later] |= 1 << shelf.earlier[n];
                }
            }
        }

        private void layStages(Row line) {
            Arrays.fill(tied, 0);
            for (int i = 0; i < ties; i++) {
                int folk = Row.folkOf(line.tieAt(i));
                if (folk >= 0 && folk < MOST_FOLK) {
                    places[folk * MOST_SEARCHED + tied[folk]] = i;
                    tied[folk]++;
                }
            }
            stages = 1;
            for (int f = 0; f < MOST_FOLK; f++) {
                steps[f] = stages;
                stages *= tied[f] + 1;
            }
            stages = Math.min(stages, MOST_STAGES);
            for (int s = 0; s < stages; s++) {
                done[s] = doneAt(s);
            }
        }

        private int doneAt(int stage) {
            int bits = 0;
            for (int f = 0; f < MOST_FOLK; f++) {
                int of = tiedAt(stage, f);
                for (int n = 0; n < of; n++) {
                    bits |= 1 << places[f * MOST_SEARCHED + n];
                }
            }
            return bits;
        }

        private int tiedAt(int stage, int folk) {
            return steps[folk] > 0 ? stage / steps[folk] % (tied[folk] + 1) : 0;
        }

        /** The place that a FOLK can tie next, NONE if none. */
        private int nextPlace(int stage, int folk) {
            int of = tiedAt(stage, folk);
            if (of >= tied[folk] || stage + steps[folk] >= stages) {
                return NONE;
            }
            int place = places[folk * MOST_SEARCHED + of];
            return (before[place] & ~done[stage]) == 0 ? place : NONE;
        }

        private void countWays() {
            Arrays.fill(waysTo, 0L);
            waysTo[0] = 1;
            for (int s = 0; s < stages; s++) {
                for (int f = 0; f < MOST_FOLK && waysTo[s] != 0; f++) {
                    if (nextPlace(s, f) != NONE) {
                        waysTo[s + steps[f]] += waysTo[s];
                    }
                }
            }
        }

        long all() {
            return stages > 0 ? waysTo[stages - 1] : 0;
        }

        int bestToAsk() {
            countOnward();
            countFirsts();
            long least = all();
            int best = NONE;
            for (int i = 0; i < ties; i++) {
                for (int j = i + 1; j < ties; j++) {
                    long one = firsts[i * MOST_SEARCHED + j];
                    long greater = Math.max(one, all() - one);
                    if (greater < least) {
                        least = greater;
                        best = i * MOST_TIES + j;
                    }
                }
            }
            return best;
        }

        private void countOnward() {
            for (int s = stages - 1; s >= 0; s--) {
                waysFrom[s] = s == stages - 1 ? 1 : 0;
                for (int f = 0; f < MOST_FOLK; f++) {
                    if (nextPlace(s, f) != NONE) {
                        waysFrom[s] += waysFrom[s + steps[f]];
                    }
                }
            }
        }

        private void countFirsts() {
            Arrays.fill(firsts, 0L);
            for (int s = 0; s < stages; s++) {
                for (int f = 0; f < MOST_FOLK && waysTo[s] != 0; f++) {
                    int place = nextPlace(s, f);
                    if (place != NONE) {
                        addFirsts(place, done[s], waysTo[s] * waysFrom[s + steps[f]]);
                    }
                }
            }
        }

        private void addFirsts(int place, int earlier, long ways) {
            for (int i = 0; i < ties; i++) {
                if ((earlier >> i & 1) != 0) {
                    firsts[i * MOST_SEARCHED + place] += ways;
                }
            }
        }
    }

    /**
     * Whether two KNOTS closed to rings are one. Both are turned until nothing more goes; then each
     * party of kin is looked at alone. A party's ring is opened right before a bundle of its least
     * FOLK, with all taken to the end that need not be behind that bundle: so there are no more ways
     * to open it than such bundles, and two rings are one if they have one of these in common.
     */
    private static final class Rings {
        private final Pile one;
        private final Pile two;
        private final Pile onePart;
        private final Pile twoPart;
        private final Pile turned;
        private final Row oneForm;
        private final Row twoForm;

        Rings() {
            one = new Pile(MOST_TIES);
            two = new Pile(MOST_TIES);
            onePart = new Pile(MOST_TIES);
            twoPart = new Pile(MOST_TIES);
            turned = new Pile(MOST_TIES);
            oneForm = new Row(MOST_TIES);
            twoForm = new Row(MOST_TIES);
        }

        boolean areOne(Net net, Row first, Row second) {
            one.lay(net, first);
            two.lay(net, second);
            tighten(net, one);
            tighten(net, two);
            int folk = one.folkBits();
            if (folk != two.folkBits() || one.size != two.size) {
                return false;
            }
            int left = folk;
            for (int f = 0; f < net.folks; f++) {
                if ((left >> f & 1) != 0) {
                    int party = net.partyOf(f, folk);
                    left &= ~party;
                    if (!isPartyOne(net, party, f)) {
                        return false;
                    }
                }
            }
            return true;
        }

        private void tighten(Net net, Pile pile) {
            boolean goes = true;
            for (int n = 0; n < MOST_TIES && goes; n++) {
                goes = tightenOnce(net, pile);
            }
        }

        private boolean tightenOnce(Net net, Pile pile) {
            int stopped = 0;
            for (int i = 0; i < pile.size; i++) {
                if ((stopped >> pile.folk[i] & 1) == 0) {
                    turn(net, pile, 1 << i);
                    if (turned.size < pile.size) {
                        pile.copyFrom(turned);
                        return true;
                    }
                }
                stopped |= net.stops[pile.folk[i]];
            }
            return false;
        }

        private void turn(Net net, Pile pile, int toTheEnd) {
            turned.clear();
            for (int i = 0; i < pile.size; i++) {
                if ((toTheEnd >> i & 1) == 0) {
                    turned.push(net, pile.folk[i], pile.counts[i]);
                }
            }
            for (int i = 0; i < pile.size; i++) {
                if ((toTheEnd >> i & 1) != 0) {
                    turned.push(net, pile.folk[i], pile.counts[i]);
                }
            }
        }

        private boolean isPartyOne(Net net, int party, int least) {
            pickParty(net, one, party, onePart);
            pickParty(net, two, party, twoPart);
            openAt(net, onePart, least);
            openAt(net, twoPart, least);
            twoPart.writeForm(net, twoForm);
            int ways = onePart.bundlesOf(least);
            for (int n = 0; n < ways; n++) {
                onePart.writeForm(net, oneForm);
                if (oneForm.isLike(twoForm)) {
                    return true;
                }
                turn(net, onePart, 1);
                onePart.copyFrom(turned);
                openAt(net, onePart, least);
            }
            return false;
        }

        private static void pickParty(Net net, Pile from, int party, Pile to) {
            to.clear();
            for (int i = 0; i < from.size; i++) {
                if ((party >> from.folk[i] & 1) != 0) {
                    to.push(net, from.folk[i], from.counts[i]);
                }
            }
        }

        // Each time fewer are taken to the end, for kin bind the party together.
        private void openAt(Net net, Pile pile, int least) {
            for (int n = 0; n < MOST_TIES; n++) {
                int free = notBehind(net, pile, pile.firstOf(least));
                if (free == 0) {
                    return;
                }
                turn(net, pile, free);
                pile.copyFrom(turned);
            }
        }

        private static int notBehind(Net net, Pile pile, int first) {
            int behind = 0;
            int free = 0;
            for (int i = 0; i < pile.size; i++) {
                boolean bound = i == first || i > first && (behind >> pile.folk[i] & 1) != 0;
                if (bound) {
                    behind |= net.stops[pile.folk[i]];
                } else {
                    free |= 1 << i;
                }
            }
            return free;
        }
    }
}
