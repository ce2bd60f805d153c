import java.util.ArrayList;
import java.util.Arrays;
import java.util.List;
import java.util.Random;

/** Finite groups of tables to try things on, told as texts. */
final class Groups {
    private Groups() {
    }

    /** A number whose n-th power is the first that is 1. */
    static long root(int n) {
        for (long v = 1; v < Oracle.P; v++) {
            long p = v;
            int order = 1;
            while (p != 1 && order <= n) {
                p = p * v % Oracle.P;
                order++;
            }
            if (order == n) {
                return v;
            }
        }
        throw new IllegalArgumentException();
    }

    private static long[][] m(long... cells) {
        int d = cells.length == 4 ? 2 : 3;
        long[][] m = new long[d][d];
        for (int i = 0; i < cells.length; i++) {
            m[i / d][i % d] = Oracle.mod(cells[i]);
        }
        return m;
    }

    private static List<long[][]> set(long[][]... tables) {
        return new ArrayList<>(Arrays.asList(tables));
    }

    /** Sets of tables, each of which makes a finite group. */
    static List<List<long[][]>> sets() {
        List<List<long[][]>> sets = new ArrayList<>();
        long half = Oracle.inv(2);
        long i = root(4);
        long e = root(8);
        long w = root(3);
        // two variables
        sets.add(set(m(0, 1, 1, 0)));
        sets.add(set(m(-1, 0, 0, -1)));
        for (int n : new int[] {3, 4, 5, 6, 7, 8, 9, 10, 12, 15, 20}) {
            long r = root(n);
            sets.add(set(m(r, 0, 0, Oracle.inv(r))));
            sets.add(set(m(r, 0, 0, 1)));
            sets.add(set(m(r, 0, 0, r)));
            sets.add(set(m(r, 0, 0, Oracle.inv(r)), m(0, 1, 1, 0)));
            sets.add(set(m(r, 0, 0, 1), m(1, 0, 0, -1)));
        }
        sets.add(set(m(i, 0, 0, -i), m(0, 1, -1, 0)));
        sets.add(set(m(0, -1, 1, 0), m(0, 1, 1, 0)));
        sets.add(set(m(0, -1, 1, -1), m(0, 1, 1, 0)));
        long[][] t = m(half * (1 + i), half * (-1 + i), half * (1 + i), half * (1 - i));
        sets.add(set(m(i, 0, 0, -i), m(0, 1, -1, 0), t));
        sets.add(set(m(i, 0, 0, -i), m(0, 1, -1, 0), t, m(e, 0, 0, Oracle.inv(e))));
        sets.add(set(m(1, 0, 0, 1)));
        sets.add(set(m(1, 0, 0, w), m(0, 1, 1, 0)));
        sets.add(set(m(1, 0, 0, i), m(0, 1, 1, 0)));
        // three variables
        long[][] turn = m(0, 1, 0, 0, 0, 1, 1, 0, 0);
        long[][] swap = m(0, 1, 0, 1, 0, 0, 0, 0, 1);
        long[][] flip = m(-1, 0, 0, 0, 1, 0, 0, 0, 1);
        long[][] flips = m(-1, 0, 0, 0, -1, 0, 0, 0, 1);
        long[][] minus = m(-1, 0, 0, 0, -1, 0, 0, 0, -1);
        sets.add(set(m(1, 0, 0, 0, 1, 0, 0, 0, 1)));
        sets.add(set(minus));
        sets.add(set(flip));
        sets.add(set(flips));
        sets.add(set(swap));
        sets.add(set(turn));
        sets.add(set(turn, swap));
        sets.add(set(turn, minus));
        sets.add(set(turn, swap, minus));
        sets.add(set(turn, flips));
        sets.add(set(turn, flip));
        sets.add(set(turn, swap, flips));
        sets.add(set(turn, m(0, -1, 0, -1, 0, 0, 0, 0, -1), flips));
        sets.add(set(turn, swap, flip));
        sets.add(set(flips, m(1, 0, 0, 0, -1, 0, 0, 0, -1)));
        sets.add(set(flip, m(1, 0, 0, 0, -1, 0, 0, 0, 1), m(1, 0, 0, 0, 1, 0, 0, 0, -1)));
        sets.add(set(m(w, 0, 0, 0, w, 0, 0, 0, w)));
        sets.add(set(turn, m(1, 0, 0, 0, w, 0, 0, 0, w * w)));
        sets.add(set(m(0, 1, 0, -1, 0, 0, 0, 0, 1), m(1, 0, 0, 0, -1, 0, 0, 0, -1)));
        for (int n : new int[] {3, 4, 5, 6, 7, 8, 12}) {
            long r = root(n);
            sets.add(set(m(r, 0, 0, 0, Oracle.inv(r), 0, 0, 0, 1)));
            sets.add(set(m(r, 0, 0, 0, Oracle.inv(r), 0, 0, 0, -1)));
            sets.add(set(m(r, 0, 0, 0, r, 0, 0, 0, 1)));
            sets.add(set(m(r, 0, 0, 0, r, 0, 0, 0, r)));
            sets.add(set(m(r, 0, 0, 0, r * r, 0, 0, 0, r * r * r)));
            sets.add(set(m(r, 0, 0, 0, Oracle.inv(r), 0, 0, 0, 1), m(0, 1, 0, 1, 0, 0, 0, 0, -1)));
        }
        return sets;
    }

    /** The same group, seen in other variables. */
    static List<long[][]> conjugate(List<long[][]> set, Random random, int most) {
        int d = set.get(0).length;
        long[][] c = new long[d][d];
        do {
            for (int i = 0; i < d; i++) {
                for (int j = 0; j < d; j++) {
                    c[i][j] = random.nextInt(most);
                }
            }
        } while (Oracle.det(c) == 0);
        long[][] back = inverse(c);
        List<long[][]> result = new ArrayList<>();
        for (long[][] m : set) {
            result.add(Oracle.mul(Oracle.mul(c, m), back));
        }
        return result;
    }

    static long[][] inverse(long[][] c) {
        int d = c.length;
        List<long[]> rows = new ArrayList<>();
        for (int i = 0; i < d; i++) {
            long[] row = new long[2 * d];
            System.arraycopy(c[i], 0, row, 0, d);
            row[d + i] = 1;
            rows.add(row);
        }
        List<long[]> done = Oracle.reduce(rows, d);
        long[][] back = new long[d][d];
        for (int i = 0; i < d; i++) {
            System.arraycopy(done.get(i), d, back[i], 0, d);
        }
        return back;
    }

    static String text(List<long[][]> set, Random random) {
        StringBuilder text = new StringBuilder();
        for (int t = 0; t < set.size(); t++) {
            text.append(t == 0 ? "" : ";");
            long[][] m = set.get(t);
            for (int i = 0; i < m.length; i++) {
                text.append(i == 0 ? "" : "/");
                for (int j = 0; j < m.length; j++) {
                    long v = m[i][j];
                    boolean below = v > 1260 || random.nextInt(5) == 0;
                    text.append(j == 0 || below ? "" : " ").append(below ? v - Oracle.P : v);
                }
            }
        }
        return text.toString();
    }
}
