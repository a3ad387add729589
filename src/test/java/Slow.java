import java.util.ArrayDeque;
import java.util.ArrayList;
import java.util.Arrays;
import java.util.HashMap;
import java.util.HashSet;
import java.util.List;
import java.util.Map;
import java.util.NoSuchElementException;
import java.util.Set;

/** The document once more, as plainly and slowly as can be, to hold the program against. */
final class Slow {
    static final List<String> RESERVED = Arrays.asList("folk", "kin", "line", "rope", "takes", "over", "under",
            "cut", "pull", "bend", "slip", "hitch", "war", "not", "and", "or");
    static final List<String> KINDS = Arrays.asList("bend", "slip", "hitch", "war");
    static final int[] ROUND = {0, 2, 3, 4};

    /** A FAULT, thrown at the first wrong token. */
    static final class Fault extends RuntimeException {
        final int kind;
        final int place;

        Fault(int kind, int place) {
            this.kind = kind;
            this.place = place;
        }
    }

    static final class Token {
        final char sort;
        final String text;
        final int place;

        Token(char sort, String text, int place) {
            this.sort = sort;
            this.text = text;
            this.place = place;
        }
    }

    interface Term {
        int value(int place, int sort, int kins, int below);
    }

    static final class NetTold {
        final List<String> names = new ArrayList<>();
        final List<Integer> kinds = new ArrayList<>();
        final Set<List<Integer>> pairs = new HashSet<>();
        Integer line;
        Integer rope;
        Term takes;

        boolean kin(int f, int g) {
            return pairs.contains(List.of(Math.min(f, g), Math.max(f, g)));
        }

        int kinBits(int f) {
            int bits = 0;
            for (int g = 0; g < names.size(); g++) {
                bits |= kin(f, g) ? 1 << g : 0;
            }
            return bits;
        }
    }

    static final class State {
        List<Integer> line = new ArrayList<>();
        List<Integer> year = new ArrayList<>();
        List<Integer> other = new ArrayList<>();
        List<int[]> ahead = new ArrayList<>();

        State copy() {
            State s = new State();
            s.line = new ArrayList<>(line);
            s.year = new ArrayList<>(year);
            s.other = new ArrayList<>(other);
            s.ahead = new ArrayList<>(ahead);
            return s;
        }
    }

    StringBuilder tape = new StringBuilder();
    NetTold net = new NetTold();
    State now = new State();
    State[] marks = new State[4];
    List<List<Integer>> past = new ArrayList<>();
    private List<Token> tokens;
    private int at;

    // ---- reading

    int feed(long a, long b, long c) {
        for (long eight : new long[] {a, b, c}) {
            for (int i = 7; i >= 0; i--) {
                int sign = (int) (eight >>> 8 * i) & 255;
                if ((sign == 10 || sign >= 32 && sign < 127) && tape.length() < 1000) {
                    tape.append((char) sign);
                }
            }
        }
        return tape.length();
    }

    private void tokenize() {
        String text = tape.toString();
        tape.setLength(0);
        tokens = new ArrayList<>();
        at = 0;
        java.util.regex.Matcher m = java.util.regex.Pattern.compile("[a-z]+|[0-9]+|[\\n ]+|.").matcher(text);
        while (m.find()) {
            String t = m.group();
            char c = t.charAt(0);
            if (c == ' ' || c == '\n') {
                continue;
            }
            char sort = '?';
            if (c >= 'a' && c <= 'z') {
                sort = t.length() <= 8 ? 'w' : '?';
            } else if (c >= '0' && c <= '9') {
                sort = t.length() <= 4 ? 'n' : '?';
            } else if ("()<=+-*;".indexOf(c) >= 0) {
                sort = c;
            }
            tokens.add(new Token(sort, t, m.start()));
        }
        tokens.add(new Token('$', "", text.length()));
    }

    private Token look() {
        return tokens.get(at);
    }

    private RuntimeException fault(int kind) {
        return new Fault(kind, look().place);
    }

    private boolean is(String word) {
        return look().sort == 'w' && look().text.equals(word);
    }

    private void sign(char c) {
        if (look().sort != c) {
            throw fault(1);
        }
        at++;
    }

    private int number(int least, int most) {
        if (look().sort != 'n') {
            throw fault(1);
        }
        int n = Integer.parseInt(look().text);
        if (n < least || n > most) {
            throw fault(4);
        }
        at++;
        return n;
    }

    private String name() {
        if (look().sort != 'w' || RESERVED.contains(look().text)) {
            throw fault(1);
        }
        return look().text;
    }

    private int known(NetTold n) {
        int f = n.names.indexOf(name());
        if (f < 0) {
            throw fault(2);
        }
        return f;
    }

    int net() {
        tokenize();
        try {
            NetTold n = new NetTold();
            while (look().sort != '$') {
                clause(n);
            }
            net = n;
            now = new State();
            marks = new State[4];
            past.clear();
            return 0;
        } catch (Fault f) {
            return f.kind + 16 * f.place;
        }
    }

    private void clause(NetTold n) {
        if (is("folk")) {
            if (n.names.size() == 6) {
                throw fault(5);
            }
            at++;
            String name = name();
            if (n.names.contains(name)) {
                throw fault(3);
            }
            at++;
            int kind = look().sort == 'w' ? KINDS.indexOf(look().text) : -1;
            if (kind < 0) {
                throw fault(1);
            }
            at++;
            n.names.add(name);
            n.kinds.add(kind);
        } else if (is("kin")) {
            at++;
            int f = known(n);
            at++;
            int g = known(n);
            if (f == g || n.kin(f, g)) {
                throw fault(3);
            }
            at++;
            n.pairs.add(List.of(Math.min(f, g), Math.max(f, g)));
        } else if (is("line")) {
            once(n.line);
            n.line = number(1, 24);
        } else if (is("rope")) {
            once(n.rope);
            n.rope = number(0, 999);
        } else if (is("takes")) {
            once(n.takes);
            n.takes = whole(0);
        } else {
            throw fault(1);
        }
        sign(';');
    }

    private void once(Object told) {
        if (told != null) {
            throw fault(3);
        }
        at++;
    }

    private static int bit(boolean b) {
        return b ? 1 : 0;
    }

    private Term whole(int depth) {
        Term left = test(depth);
        while (is("and") || is("or")) {
            boolean and = is("and");
            at++;
            Term a = left;
            Term b = test(depth);
            left = (p, s, k, u) -> {
                boolean x = a.value(p, s, k, u) != 0;
                boolean y = b.value(p, s, k, u) != 0;
                return bit(and ? x && y : x || y);
            };
        }
        return left;
    }

    private Term test(int depth) {
        Term a = sumOf(depth);
        char c = look().sort;
        if (c != '<' && c != '=') {
            return a;
        }
        at++;
        Term b = sumOf(depth);
        return (p, s, k, u) -> {
            int x = a.value(p, s, k, u);
            int y = b.value(p, s, k, u);
            return bit(c == '<' ? x < y : x == y);
        };
    }

    private Term sumOf(int depth) {
        Term left = product(depth);
        while (look().sort == '+' || look().sort == '-') {
            boolean plus = look().sort == '+';
            at++;
            Term a = left;
            Term b = product(depth);
            left = (p, s, k, u) -> plus ? a.value(p, s, k, u) + b.value(p, s, k, u)
                    : a.value(p, s, k, u) - b.value(p, s, k, u);
        }
        return left;
    }

    private Term product(int depth) {
        Term left = part(depth);
        while (look().sort == '*') {
            at++;
            Term a = left;
            Term b = part(depth);
            left = (p, s, k, u) -> a.value(p, s, k, u) * b.value(p, s, k, u);
        }
        return left;
    }

    private Term part(int depth) {
        List<String> facts = List.of("place", "sort", "kins", "below");
        Token t = look();
        boolean fact = t.sort == 'w' && facts.contains(t.text);
        if (t.sort != 'n' && !fact && !is("not") && t.sort != '(') {
            throw fault(1);
        }
        if (depth >= 5) {
            throw fault(5);
        }
        at++;
        if (t.sort == 'n') {
            int n = Integer.parseInt(t.text);
            return (p, s, k, u) -> n;
        }
        if (fact) {
            int which = facts.indexOf(t.text);
            return (p, s, k, u) -> new int[] {p, s, k, u}[which];
        }
        if (t.sort == '(') {
            Term inside = whole(depth + 1);
            sign(')');
            return inside;
        }
        Term denied = part(depth + 1);
        return (p, s, k, u) -> bit(denied.value(p, s, k, u) == 0);
    }

    int year() {
        List<Integer> rows = lines(40, true);
        if (rows.size() == 1 && rows.get(0) < 0) {
            return -rows.get(0);
        }
        now.year = rows;
        return 0;
    }

    int other() {
        List<Integer> rows = lines(24, false);
        if (rows.size() == 1 && rows.get(0) < 0) {
            return -rows.get(0);
        }
        now.other = rows;
        return 0;
    }

    private List<Integer> lines(int most, boolean hands) {
        tokenize();
        List<Integer> rows = new ArrayList<>();
        try {
            while (look().sort != '$') {
                boolean cut = hands && is("cut");
                boolean pull = hands && is("pull");
                int folk = cut || pull ? 0 : known(net);
                if (rows.size() == most) {
                    throw fault(5);
                }
                at++;
                if (cut) {
                    rows.add(100 + number(0, 23));
                } else if (pull) {
                    rows.add(200);
                } else {
                    if (!is("over") && !is("under")) {
                        throw fault(1);
                    }
                    rows.add(2 * folk + bit(is("under")));
                    at++;
                }
                sign(';');
            }
            return rows;
        } catch (Fault f) {
            return new ArrayList<>(List.of(-(f.kind + 16 * f.place)));
        }
    }

    // ---- knots

    int folk(int f, int what) {
        if (f < 0 || f >= net.names.size() || what < 0 || what > 1) {
            return -1;
        }
        return what == 0 ? net.kinds.get(f) : net.kinBits(f);
    }

    private int takes(int place, int tie) {
        int f = tie / 2;
        int worth = net.takes == null ? 1 + net.kinds.get(f)
                : net.takes.value(place, net.kinds.get(f), Integer.bitCount(net.kinBits(f)), tie % 2);
        return worth < 0 ? 0 : worth > 99 ? 99 : worth;
    }

    private int used(List<Integer> row) {
        int all = 0;
        for (int i = 0; i < row.size(); i++) {
            all += takes(i, row.get(i));
        }
        return all;
    }

    private boolean can(List<Integer> row, int tie) {
        List<Integer> more = new ArrayList<>(row);
        more.add(tie);
        return more.size() <= (net.line == null ? 24 : net.line) && used(more) <= (net.rope == null ? 200 : net.rope);
    }

    /** Bundles {FOLK, count} that can't be brought together any further. */
    private List<int[]> bundles(List<Integer> row) {
        List<int[]> list = new ArrayList<>();
        for (int t : row) {
            list.add(new int[] {t / 2, t % 2 == 0 ? 1 : -1});
        }
        boolean again = true;
        while (again) {
            again = false;
            for (int i = 0; i < list.size() && !again; i++) {
                int round = ROUND[net.kinds.get(list.get(i)[0])];
                int count = list.get(i)[1];
                if (count == 0 || round > 0 && count % round == 0) {
                    list.remove(i);
                    again = true;
                }
                for (int j = i + 1; j < list.size() && !again; j++) {
                    if (list.get(i)[0] == list.get(j)[0] && freeBetween(list, i, j)) {
                        list.get(i)[1] += list.get(j)[1];
                        list.remove(j);
                        again = true;
                    }
                }
            }
        }
        return list;
    }

    private boolean freeBetween(List<int[]> list, int i, int j) {
        for (int k = i + 1; k < j; k++) {
            if (list.get(k)[0] == list.get(j)[0] || net.kin(list.get(k)[0], list.get(j)[0])) {
                return false;
            }
        }
        return true;
    }

    private int fewest(List<Integer> row) {
        int all = 0;
        for (int[] b : bundles(row)) {
            int round = ROUND[net.kinds.get(b[0])];
            int rest = round > 0 ? Math.floorMod(b[1], round) : Math.abs(b[1]);
            all += round > 0 ? Math.min(rest, round - rest) : rest;
        }
        return all;
    }

    boolean comesOut(List<Integer> row) {
        return bundles(row).isEmpty();
    }

    /** Tie by tie the least one that brings the rest nearer to nothing. */
    List<Integer> formOf(List<Integer> row) {
        List<Integer> form = new ArrayList<>();
        List<Integer> rest = new ArrayList<>(row);
        int left = fewest(rest);
        while (left > 0) {
            for (int t = 0; t < 2 * net.names.size(); t++) {
                List<Integer> tried = new ArrayList<>(rest);
                tried.add(0, t ^ 1);
                if (fewest(tried) == left - 1) {
                    form.add(t);
                    rest = tried;
                    left--;
                    break;
                }
            }
        }
        return form;
    }

    static List<Integer> against(List<Integer> row) {
        List<Integer> back = new ArrayList<>();
        for (int i = row.size() - 1; i >= 0; i--) {
            back.add(row.get(i) ^ 1);
        }
        return back;
    }

    static List<Integer> joined(List<Integer> a, List<Integer> b) {
        List<Integer> both = new ArrayList<>(a);
        both.addAll(b);
        return both;
    }

    private void keep() {
        past.add(new ArrayList<>(now.line));
        if (past.size() > 16) {
            past.remove(0);
        }
    }

    int tie(int f, boolean over) {
        if (f < 0 || f >= net.names.size() || !can(now.line, 2 * f + bit(!over))) {
            return -1;
        }
        keep();
        now.line.add(2 * f + bit(!over));
        return now.line.size();
    }

    int cut(int place) {
        if (place < 0 || place >= now.line.size()) {
            return -1;
        }
        keep();
        now.line.remove(place);
        now.ahead.clear();
        return now.line.size();
    }

    int pull() {
        List<Integer> form = formOf(now.line);
        if (form.equals(now.line)) {
            return -1;
        }
        keep();
        now.line = form;
        now.ahead.clear();
        return form.size();
    }

    boolean undo() {
        if (past.isEmpty()) {
            return false;
        }
        now.line = past.remove(past.size() - 1);
        now.ahead.clear();
        return true;
    }

    int judged(int what) {
        if (what < 0 || what > 2) {
            return -2;
        }
        List<Integer> row = new ArrayList<>();
        int cant = -1;
        int outAt = -1;
        for (int i = 0; i < now.year.size(); i++) {
            int told = now.year.get(i);
            boolean good;
            if (told == 200) {
                List<Integer> form = formOf(row);
                good = !form.equals(row);
                row = form;
            } else if (told >= 100) {
                good = told - 100 < row.size();
                if (good) {
                    row.remove(told - 100);
                }
            } else {
                good = can(row, told);
                if (good) {
                    row.add(told);
                }
            }
            cant = !good && cant < 0 ? i : cant;
            outAt = outAt < 0 && !row.isEmpty() && comesOut(row) ? i : outAt;
        }
        return what == 0 ? cant : what == 1 ? outAt : formOf(row).size();
    }

    private static int get(List<Integer> row, int i, int none) {
        return i >= 0 && i < row.size() ? row.get(i) : none;
    }

    int at(int place) {
        return get(now.line, place, -1);
    }

    int form(int place) {
        return get(formOf(now.line), place, -1);
    }

    boolean out() {
        return comesOut(now.line);
    }

    private static int bits(List<Integer> row) {
        int bits = 0;
        for (int t : row) {
            bits |= 1 << t / 2;
        }
        return bits;
    }

    int held() {
        return bits(formOf(now.line));
    }

    private List<Integer> only(int folkBits) {
        List<Integer> row = new ArrayList<>(now.line);
        row.removeIf(t -> (folkBits >> t / 2 & 1) == 0);
        return row;
    }

    int fault() {
        int found = 0;
        for (int f = 0; f < 6; f++) {
            if ((bits(now.line) >> f & 1) != 0 && comesOut(only(~(1 << f)))) {
                found |= 1 << f;
            }
        }
        return found;
    }

    int sum(int f) {
        if (f < 0 || f >= net.names.size()) {
            throw new NoSuchElementException();
        }
        int all = 0;
        for (int t : now.line) {
            all += t / 2 != f ? 0 : t % 2 == 0 ? 1 : -1;
        }
        int round = ROUND[net.kinds.get(f)];
        return round == 0 ? all : Math.floorMod(all, round);
    }

    int shown() {
        for (int f = 0; f < net.names.size(); f++) {
            for (int g = f; g < net.names.size(); g++) {
                if ((f == g || net.kin(f, g)) && !comesOut(only(1 << f | 1 << g))) {
                    return 6 * f + g;
                }
            }
        }
        return -1;
    }

    int loose(int what) {
        if (what < 0 || what > 1) {
            return -2;
        }
        for (int size = now.line.size(); size > 0; size--) {
            for (int from = 0; from + size <= now.line.size(); from++) {
                if (comesOut(now.line.subList(from, from + size))) {
                    return what == 0 ? size : from;
                }
            }
        }
        return what == 0 ? 0 : -1;
    }

    int yet(int what) {
        List<Integer> row = formOf(against(now.line));
        return what == -1 ? row.size() : get(row, what, -2);
    }

    int cuts() {
        int n = now.line.size();
        if (n > 14) {
            return -1;
        }
        int best = (1 << n) - 1;
        for (int set = 0; set < 1 << n; set++) {
            if (Integer.bitCount(set) < Integer.bitCount(best)) {
                List<Integer> row = new ArrayList<>();
                for (int i = 0; i < n; i++) {
                    if ((set >> i & 1) == 0) {
                        row.add(now.line.get(i));
                    }
                }
                best = comesOut(row) ? set : best;
            }
        }
        return best;
    }

    boolean ahead(int place, int other) {
        int n = now.line.size();
        if (place < 0 || place >= n || other < 0 || other >= n || place == other || now.ahead.size() == 8) {
            return false;
        }
        now.ahead.add(new int[] {place, other});
        return true;
    }

    private long orders(int done, List<int[]> ahead, Map<Integer, Long> known) {
        int n = now.line.size();
        if (done == (1 << n) - 1) {
            return 1;
        }
        Long was = known.get(done);
        if (was != null) {
            return was;
        }
        long all = 0;
        for (int i = 0; i < n; i++) {
            if ((done >> i & 1) == 0 && mayBeNext(i, done, ahead)) {
                all += orders(done | 1 << i, ahead, known);
            }
        }
        known.put(done, all);
        return all;
    }

    private boolean mayBeNext(int i, int done, List<int[]> ahead) {
        for (int j = 0; j < i; j++) {
            int f = now.line.get(i) / 2;
            int g = now.line.get(j) / 2;
            if ((done >> j & 1) == 0 && (f == g || net.kin(f, g))) {
                return false;
            }
        }
        for (int[] pair : ahead) {
            if (pair[1] == i && (done >> pair[0] & 1) == 0) {
                return false;
            }
        }
        return true;
    }

    long orders() {
        return now.line.size() > 14 ? -1 : orders(0, now.ahead, new HashMap<>());
    }

    int ask() {
        int n = now.line.size();
        if (n > 14) {
            return -1;
        }
        long all = orders();
        long least = all;
        int best = -1;
        for (int i = 0; i < n; i++) {
            for (int j = i + 1; j < n; j++) {
                List<int[]> more = new ArrayList<>(now.ahead);
                more.add(new int[] {i, j});
                long one = orders(0, more, new HashMap<>());
                more.set(more.size() - 1, new int[] {j, i});
                long two = orders(0, more, new HashMap<>());
                if (Math.max(one, two) < least) {
                    least = Math.max(one, two);
                    best = 24 * i + j;
                }
            }
        }
        return best;
    }

    boolean same() {
        return formOf(now.line).equals(formOf(now.other));
    }

    boolean pass() {
        return formOf(joined(now.line, now.other)).equals(formOf(joined(now.other, now.line)));
    }

    /** 1 or 0; -1 as the document says; -9 if it would take too long to find out here. */
    int ring() {
        return ring(1);
    }

    /** By rows that are longer by so many ties at most. */
    int ring(int growth) {
        List<Integer> a = formOf(now.line);
        List<Integer> b = formOf(now.other);
        if (a.size() > 10 || b.size() > 10) {
            return -1;
        }
        int most = 2500;
        int room = Math.max(a.size(), b.size()) + growth;
        Set<List<Integer>> seen = new HashSet<>();
        ArrayDeque<List<Integer>> queue = new ArrayDeque<>();
        seen.add(a);
        queue.add(a);
        while (!queue.isEmpty()) {
            List<Integer> row = queue.remove();
            if (row.equals(b)) {
                return 1;
            }
            for (int t = 0; t < 2 * net.names.size(); t++) {
                List<Integer> turned = new ArrayList<>(row);
                turned.add(0, t ^ 1);
                turned.add(t);
                if (fewest(turned) <= room) {
                    turned = formOf(turned);
                    if (seen.add(turned)) {
                        queue.add(turned);
                    }
                }
            }
            if (seen.size() > most) {
                return -9;
            }
        }
        return 0;
    }

    int rests(int needs, int gets, int loses, int what) {
        if (needs < 0 || needs > 10 || gets < 0 || gets > 9 || loses < 0 || loses > 9) {
            throw new NoSuchElementException();
        }
        List<Integer> found = new ArrayList<>();
        for (int pair = 0; pair <= 55; pair++) {
            int a = pair / 10;
            int b = pair % 10;
            boolean rest = b <= 5;
            for (int c = 0; c <= 5 && rest; c++) {
                int haveA = bit(a + b >= needs) * gets - a * loses;
                int haveB = bit(a + b >= needs) * gets - b * loses;
                rest = bit(c + b >= needs) * gets - c * loses <= haveA && bit(a + c >= needs) * gets - c * loses <= haveB;
            }
            if (rest) {
                found.add(pair);
            }
        }
        if (what == -1) {
            return found.size();
        }
        if (what < 0 || what >= found.size()) {
            throw new NoSuchElementException();
        }
        return found.get(what);
    }

    private java.math.BigInteger g;

    private int draw(int below) {
        g = g.multiply(java.math.BigInteger.valueOf(1103515245)).add(java.math.BigInteger.valueOf(12345))
                .mod(java.math.BigInteger.valueOf(2147483648L));
        return g.divide(java.math.BigInteger.valueOf(65536)).mod(java.math.BigInteger.valueOf(below)).intValue();
    }

    int centuries(int seed, int years, int what) {
        if (seed < 0 || seed > 9999 || years < 1 || years > 40 || what < 0 || what > 2) {
            return -1;
        }
        g = java.math.BigInteger.valueOf(seed);
        int outs = 0;
        int left = 0;
        int most = 0;
        for (int y = 0; y < years; y++) {
            List<Integer> row = new ArrayList<>();
            for (int n = 0; n < 8 && !net.names.isEmpty(); n++) {
                int f = draw(net.names.size());
                int tie = 2 * f + draw(2);
                if (can(row, tie)) {
                    row.add(tie);
                }
            }
            int size = fewest(row);
            outs += bit(size == 0);
            left += size;
            most = Math.max(most, size);
        }
        return what == 0 ? outs : what == 1 ? left : most;
    }

    boolean mark(int mark, boolean back) {
        if (mark < 0 || mark > 3 || back && marks[mark] == null) {
            return false;
        }
        if (back) {
            now = marks[mark].copy();
            past.clear();
        } else {
            marks[mark] = now.copy();
        }
        return true;
    }

    int count(int what) {
        switch (what) {
            case 0: return net.names.size();
            case 1: return net.pairs.size();
            case 2: return net.line == null ? 24 : net.line;
            case 3: return net.rope == null ? 200 : net.rope;
            case 4: return used(now.line);
            case 5: return now.line.size();
            case 6: return formOf(now.line).size();
            case 7: return now.year.size();
            case 8: return now.other.size();
            case 9: return now.ahead.size();
            case 10: return past.size();
            case 11: return tape.length();
            default: return -1;
        }
    }
}
