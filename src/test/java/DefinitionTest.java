import java.util.Arrays;

/**
 * KNOTS and RINGS by the bare words of the document: all lines of up to 8 ties are joined by the
 * moves that are allowed, and then all short ones are held against the program's answers.
 */
public final class DefinitionTest {
    private static final int LONGEST = 8;
    private static final int LOOKED_AT = 4;
    private static final int[] ROUND = {0, 2, 3, 4};
    private static final String[] KINDS = {"bend", "slip", "hitch", "war"};

    private final int[] kinds;
    private final boolean[][] kin;
    private final int letters;
    private final int[] start = new int[LONGEST + 2];
    private final int[] up;

    private DefinitionTest(int[] kinds, int[][] pairs) {
        this.kinds = kinds;
        kin = new boolean[kinds.length][kinds.length];
        for (int[] p : pairs) {
            kin[p[0]][p[1]] = true;
            kin[p[1]][p[0]] = true;
        }
        letters = 2 * kinds.length;
        int lines = 1;
        for (int n = 0; n <= LONGEST; n++) {
            start[n + 1] = start[n] + lines;
            lines *= letters;
        }
        up = new int[start[LONGEST + 1]];
    }

    public static void main(String[] args) {
        Check check = new Check();
        new DefinitionTest(new int[] {0, 1, 2}, new int[][] {{0, 1}}).go(check);
        new DefinitionTest(new int[] {3, 0, 2}, new int[][] {{0, 1}, {1, 2}}).go(check);
        new DefinitionTest(new int[] {1, 3, 3}, new int[][] {{0, 1}, {0, 2}}).go(check);
        new DefinitionTest(new int[] {2, 2, 1}, new int[][] {{0, 1}, {0, 2}, {1, 2}}).go(check);
        new DefinitionTest(new int[] {3, 0}, new int[][] {}).go(check);
        check.end();
    }

    private int number(int[] row) {
        int n = 0;
        for (int t : row) {
            n = n * letters + t;
        }
        return start[row.length] + n;
    }

    private int[] row(int number) {
        int size = 0;
        while (number >= start[size + 1]) {
            size++;
        }
        int[] row = new int[size];
        int rest = number - start[size];
        for (int i = size - 1; i >= 0; i--) {
            row[i] = rest % letters;
            rest /= letters;
        }
        return row;
    }

    private int top(int i) {
        while (up[i] != i) {
            up[i] = up[up[i]];
            i = up[i];
        }
        return i;
    }

    // Rows are numbered by size, then as FORM wants them: so the least of a KNOT is its FORM.
    private void join(int a, int b) {
        int one = top(a);
        int two = top(b);
        up[Math.max(one, two)] = Math.min(one, two);
    }

    private void joinKnots() {
        for (int i = 0; i < up.length; i++) {
            up[i] = i;
        }
        for (int i = 0; i < up.length; i++) {
            int[] row = row(i);
            for (int p = 0; p + 1 < row.length; p++) {
                int f = row[p] / 2;
                int g = row[p + 1] / 2;
                if (f != g && !kin[f][g]) {
                    int[] other = row.clone();
                    other[p] = row[p + 1];
                    other[p + 1] = row[p];
                    join(i, number(other));
                }
            }
            joinWithout(i, row);
        }
    }

    private void joinWithout(int i, int[] row) {
        for (int from = 0; from < row.length; from++) {
            int count = 0;
            for (int to = from; to < row.length && row[to] / 2 == row[from] / 2; to++) {
                count += row[to] % 2 == 0 ? 1 : -1;
                int round = ROUND[kinds[row[from] / 2]];
                if (count == 0 || round > 0 && count % round == 0) {
                    int[] less = new int[row.length - (to - from + 1)];
                    System.arraycopy(row, 0, less, 0, from);
                    System.arraycopy(row, to + 1, less, from, row.length - to - 1);
                    join(i, number(less));
                }
            }
        }
    }

    private void joinRings() {
        for (int i = 0; i < up.length; i++) {
            int[] row = row(i);
            if (row.length > 1) {
                int[] turned = new int[row.length];
                System.arraycopy(row, 1, turned, 0, row.length - 1);
                turned[row.length - 1] = row[0];
                join(i, number(turned));
            }
        }
    }

    private void go(Check check) {
        joinKnots();
        for (int i = 0; i < start[LOOKED_AT + 1]; i++) {
            YearKnot x = tied(row(i));
            int[] least = row(top(i));
            check.due("FORM of " + Arrays.toString(row(i)), Check.form(x), text(least));
            check.due("OUT of " + Arrays.toString(row(i)), x.out(), least.length == 0);
        }
        joinRings();
        for (int i = 0; i < start[LOOKED_AT + 1]; i += 7) {
            YearKnot x = tied(row(i));
            for (int j = i % 11; j < start[LOOKED_AT + 1]; j += 29) {
                other(x, row(j));
                check.due("RING of " + text(row(i)) + " and " + text(row(j)), x.ring(), top(i) == top(j) ? 1 : 0);
            }
            int[] turned = row(top(i));
            other(x, turned);
            check.due("RING of " + text(row(i)) + " and its least " + text(turned), x.ring(), 1);
        }
    }

    private static String text(int[] row) {
        StringBuilder text = new StringBuilder();
        for (int t : row) {
            text.append(Check.letter(t));
        }
        return text.toString();
    }

    private YearKnot tied(int[] row) {
        YearKnot x = new YearKnot();
        StringBuilder text = new StringBuilder();
        for (int f = 0; f < kinds.length; f++) {
            text.append("folk ").append((char) ('a' + f)).append(' ').append(KINDS[kinds[f]]).append(';');
        }
        for (int f = 0; f < kinds.length; f++) {
            for (int g = 0; g < f; g++) {
                if (kin[f][g]) {
                    text.append("kin ").append((char) ('a' + f)).append(' ').append((char) ('a' + g)).append(';');
                }
            }
        }
        Check.net(x, text.toString());
        Check.ties(x, text(row));
        return x;
    }

    private static void other(YearKnot x, int[] row) {
        StringBuilder text = new StringBuilder();
        for (int t : row) {
            text.append((char) ('a' + t / 2)).append(t % 2 == 0 ? " over;" : " under;");
        }
        Check.other(x, text.toString());
    }
}
