import java.util.ArrayList;
import java.util.Arrays;
import java.util.List;
import java.util.Map;
import java.util.NoSuchElementException;
import java.util.TreeMap;

/**
 * A second, plain and slow working of the document, by other ways wherever there are some: maps of
 * monomials, bases as what equations leave free, products all worked out anew.
 */
final class Oracle {
    static final long P = 2521;
    int d = 2;
    List<long[][]> told = new ArrayList<>();
    List<long[][]> group = new ArrayList<>();
    final List<Integer> tape = new ArrayList<>();
    @SuppressWarnings({"unchecked", "rawtypes"})
    TreeMap<Integer, Long>[] kept = new TreeMap[6];
    private final Map<Integer, List<TreeMap<Integer, Long>>> bases = new TreeMap<>();
    private List<int[]> primaries;
    private boolean searched;
    private List<int[]> secondaries;
    private Map<List<Integer>, Long> rewritten;

    Oracle() {
        for (int k = 0; k < 6; k++) {
            kept[k] = new TreeMap<>();
        }
        group.add(identity(2));
    }

    // ---- numbers and tables

    static long inv(long v) {
        for (long w = 1; w < P; w++) {
            if (v * w % P == 1) {
                return w;
            }
        }
        throw new IllegalStateException();
    }

    private static final long[] INV = new long[(int) P];

    static {
        for (int v = 1; v < P; v++) {
            INV[v] = inv(v);
        }
    }

    static long mod(long v) {
        return ((v % P) + P) % P;
    }

    static long[][] identity(int d) {
        long[][] m = new long[d][d];
        for (int i = 0; i < d; i++) {
            m[i][i] = 1;
        }
        return m;
    }

    static long[][] mul(long[][] a, long[][] b) {
        int d = a.length;
        long[][] m = new long[d][d];
        for (int i = 0; i < d; i++) {
            for (int j = 0; j < d; j++) {
                for (int k = 0; k < d; k++) {
                    m[i][j] = mod(m[i][j] + a[i][k] * b[k][j]);
                }
            }
        }
        return m;
    }

    static long det(long[][] m) {
        if (m.length == 1) {
            return m[0][0];
        }
        long sum = 0;
        for (int c = 0; c < m.length; c++) {
            long[][] small = new long[m.length - 1][m.length - 1];
            for (int i = 1; i < m.length; i++) {
                int at = 0;
                for (int j = 0; j < m.length; j++) {
                    if (j != c) {
                        small[i - 1][at++] = m[i][j];
                    }
                }
            }
            sum += (c % 2 == 0 ? 1 : -1) * m[0][c] * det(small);
        }
        return mod(sum);
    }

    private int find(List<long[][]> list, long[][] m) {
        for (int i = 0; i < list.size(); i++) {
            if (Arrays.deepEquals(list.get(i), m)) {
                return i;
            }
        }
        return -1;
    }

    // ---- texts

    static final class Token {
        char kind; // '9' digits, '$' end, '?' bad, else the sign
        String digits = "";
        int place;
    }

    static final class Fault extends Exception {
        private static final long serialVersionUID = 1L;
        final int answer;

        Fault(int place, int kind) {
            answer = -2 - (8 * place + kind);
        }
    }

    static final class TooHigh extends RuntimeException {
        private static final long serialVersionUID = 1L;
    }

    private List<Token> tokens(int n) {
        List<Token> list = new ArrayList<>();
        int at = 0;
        while (at < n) {
            int c = tape.get(at);
            if (c == 32 || c == 10) {
                at++;
                continue;
            }
            Token t = new Token();
            t.place = at;
            if (c >= '0' && c <= '9') {
                t.kind = '9';
                while (at < n && tape.get(at) >= '0' && tape.get(at) <= '9') {
                    t.digits += (char) (int) tape.get(at++);
                }
            } else {
                t.kind = "xyz;/-+*^()".indexOf(c) >= 0 && c != 0 ? (char) c : '?';
                at++;
            }
            list.add(t);
        }
        Token end = new Token();
        end.kind = '$';
        end.place = n;
        list.add(end);
        return list;
    }

    // An automaton: what has been told so far, counted.
    private List<long[][]> parseTables(int n, List<Integer> firsts) throws Fault {
        List<List<List<Long>>> tables = new ArrayList<>();
        int wide = 0;
        boolean minus = false;
        List<List<Long>> table = new ArrayList<>();
        List<Long> row = new ArrayList<>();
        boolean fresh = true;
        for (Token t : tokens(n)) {
            if (fresh && !minus && (t.kind == '9' || t.kind == '-')) {
                firsts.add(t.place);
                fresh = false;
            }
            boolean rowFull = row.size() == (wide == 0 ? 3 : wide);
            boolean rowCanEnd = !minus && (wide == 0 ? row.size() >= 2 : row.size() == wide);
            switch (t.kind) {
                case '-':
                    if (minus || rowFull) {
                        throw new Fault(t.place, 1);
                    }
                    minus = true;
                    break;
                case '9':
                    if (rowFull || t.digits.length() > 4) {
                        throw new Fault(t.place, 1);
                    }
                    row.add(mod((minus ? -1 : 1) * Long.parseLong(t.digits)));
                    minus = false;
                    break;
                case '/':
                    if (!rowCanEnd || wide != 0 && table.size() + 1 >= wide) {
                        throw new Fault(t.place, 1);
                    }
                    wide = row.size();
                    table.add(row);
                    row = new ArrayList<>();
                    break;
                case ';':
                case '$':
                    if (!rowCanEnd || wide == 0 || table.size() + 1 != wide) {
                        throw new Fault(t.place, 1);
                    }
                    table.add(row);
                    tables.add(table);
                    row = new ArrayList<>();
                    table = new ArrayList<>();
                    fresh = true;
                    if (t.kind == ';' && tables.size() == 4) {
                        throw new Fault(t.place, 2);
                    }
                    break;
                default:
                    throw new Fault(t.place, 1);
            }
        }
        List<long[][]> result = new ArrayList<>();
        for (List<List<Long>> one : tables) {
            long[][] m = new long[wide][wide];
            for (int i = 0; i < wide; i++) {
                for (int j = 0; j < wide; j++) {
                    m[i][j] = one.get(i).get(j);
                }
            }
            result.add(m);
        }
        return result;
    }

    int feed(int... words) {
        if (tape.size() + 20 > 400) {
            return -1;
        }
        for (int w : words) {
            tape.add(w >>> 24);
            tape.add(w >>> 16 & 255);
            tape.add(w >>> 8 & 255);
            tape.add(w & 255);
        }
        return tape.size();
    }

    int tables(int n) {
        if (n < 0 || n > tape.size()) {
            return -1;
        }
        try {
            List<Integer> firsts = new ArrayList<>();
            List<long[][]> read = parseTables(n, firsts);
            for (int t = 0; t < read.size(); t++) {
                if (det(read.get(t)) == 0) {
                    throw new Fault(firsts.get(t), 3);
                }
            }
            int wide = read.get(0).length;
            List<long[][]> grown = new ArrayList<>();
            grown.add(identity(wide));
            for (int g = 0; g < grown.size(); g++) {
                for (long[][] t : read) {
                    long[][] m = mul(grown.get(g), t);
                    if (find(grown, m) < 0) {
                        grown.add(m);
                    }
                    if (grown.size() > 48) {
                        throw new Fault(0, 4);
                    }
                }
            }
            told = read;
            group = grown;
            if (d != wide) {
                for (int k = 0; k < 6; k++) {
                    kept[k] = new TreeMap<>();
                }
            }
            d = wide;
            bases.clear();
            searched = false;
            primaries = null;
            secondaries = null;
            rewritten = null;
            return group.size();
        } catch (Fault fault) {
            return fault.answer;
        } finally {
            tape.clear();
        }
    }

    private void checkPolynomial(List<Token> tokens) throws Fault {
        // 0 start of a sum, 1 operand, 2 behind a part, 3 exponent, 4 behind a power
        int state = 0;
        int depth = 0;
        for (Token t : tokens) {
            int next = -1;
            if (state <= 1) {
                if (t.kind == '-' && state == 0) {
                    next = 1;
                } else if (t.kind == '9' && t.digits.length() <= 4 || t.kind == 'x' || t.kind == 'y' || t.kind == 'z' && d == 3) {
                    next = 2;
                } else if (t.kind == '(') {
                    if (depth == 8) {
                        throw new Fault(t.place, 2);
                    }
                    depth++;
                    next = 0;
                }
            } else if (state == 3) {
                if (t.kind == '9' && t.digits.length() <= 2) {
                    if (Integer.parseInt(t.digits) > 15) {
                        throw new Fault(t.place, 2);
                    }
                    next = 4;
                }
            } else if (t.kind == '^' && state == 2) {
                next = 3;
            } else if (t.kind == '*' || t.kind == '+' || t.kind == '-') {
                next = 1;
            } else if (t.kind == ')' && depth > 0) {
                depth--;
                next = 2;
            } else if (t.kind == '$' && depth == 0) {
                next = 5;
            }
            if (next < 0) {
                throw new Fault(t.place, 1);
            }
            state = next;
        }
    }

    private List<Token> reading;
    private int at;

    private TreeMap<Integer, Long> sum() {
        long sign = 1;
        if (reading.get(at).kind == '-') {
            sign = -1;
            at++;
        }
        TreeMap<Integer, Long> result = new TreeMap<>();
        while (true) {
            TreeMap<Integer, Long> p = part();
            while (reading.get(at).kind == '*') {
                at++;
                p = limited(mulPoly(p, part()));
            }
            result = addPoly(result, p, sign);
            char k = reading.get(at).kind;
            if (k != '+' && k != '-') {
                return result;
            }
            sign = k == '-' ? -1 : 1;
            at++;
        }
    }

    private TreeMap<Integer, Long> part() {
        Token t = reading.get(at++);
        TreeMap<Integer, Long> p = new TreeMap<>();
        if (t.kind == '9') {
            p = constant(Long.parseLong(t.digits));
        } else if (t.kind == '(') {
            p = sum();
            at++;
        } else {
            p.put(key(t.kind == 'x' ? 1 : 0, t.kind == 'y' ? 1 : 0, t.kind == 'z' ? 1 : 0), 1L);
        }
        if (reading.get(at).kind == '^') {
            int e = Integer.parseInt(reading.get(at + 1).digits);
            at += 2;
            TreeMap<Integer, Long> r = constant(1);
            for (int i = 0; i < e; i++) {
                r = mulPoly(r, p);
                if (degree(r) > 15) {
                    throw new TooHigh();
                }
            }
            p = limited(r);
        }
        return p;
    }

    private static TreeMap<Integer, Long> limited(TreeMap<Integer, Long> p) {
        if (degree(p) > 15) {
            throw new TooHigh();
        }
        return p;
    }

    int polynomial(int k, int n) {
        if (k < 0 || k > 5 || n < 0 || n > tape.size()) {
            return -1;
        }
        try {
            reading = tokens(n);
            checkPolynomial(reading);
            at = 0;
            kept[k] = sum();
            return degree(kept[k]);
        } catch (Fault fault) {
            return fault.answer;
        } catch (TooHigh high) {
            return -5;
        } finally {
            tape.clear();
        }
    }

    // ---- polynomials as maps, keys in the order of MONOMIALS

    static int key(int a, int b, int c) {
        return 511 - a - b - c << 21 | 127 - a << 14 | 127 - b << 7 | 127 - c;
    }

    static int power(int key, int v) {
        return 127 - (key >> 14 - 7 * v & 127);
    }

    static int degree(TreeMap<Integer, Long> p) {
        return p.isEmpty() ? 0 : 511 - (p.firstKey() >> 21);
    }

    static TreeMap<Integer, Long> constant(long v) {
        TreeMap<Integer, Long> p = new TreeMap<>();
        if (mod(v) != 0) {
            p.put(key(0, 0, 0), mod(v));
        }
        return p;
    }

    static TreeMap<Integer, Long> addPoly(TreeMap<Integer, Long> a, TreeMap<Integer, Long> b, long f) {
        TreeMap<Integer, Long> r = new TreeMap<>(a);
        for (Map.Entry<Integer, Long> e : b.entrySet()) {
            long v = mod(r.getOrDefault(e.getKey(), 0L) + mod(f) * e.getValue());
            if (v == 0) {
                r.remove(e.getKey());
            } else {
                r.put(e.getKey(), v);
            }
        }
        return r;
    }

    static TreeMap<Integer, Long> mulPoly(TreeMap<Integer, Long> a, TreeMap<Integer, Long> b) {
        TreeMap<Integer, Long> r = new TreeMap<>();
        for (Map.Entry<Integer, Long> e : a.entrySet()) {
            for (Map.Entry<Integer, Long> f : b.entrySet()) {
                int k = key(power(e.getKey(), 0) + power(f.getKey(), 0), power(e.getKey(), 1) + power(f.getKey(), 1),
                        power(e.getKey(), 2) + power(f.getKey(), 2));
                r.merge(k, e.getValue() * f.getValue() % P, (x, y) -> (x + y) % P);
            }
        }
        r.values().removeIf(v -> v == 0);
        return r;
    }

    static TreeMap<Integer, Long> powPoly(TreeMap<Integer, Long> a, int e) {
        TreeMap<Integer, Long> r = constant(1);
        for (int i = 0; i < e; i++) {
            r = mulPoly(r, a);
        }
        return r;
    }

    TreeMap<Integer, Long> move(TreeMap<Integer, Long> f, long[][] m) {
        List<List<TreeMap<Integer, Long>>> powers = new ArrayList<>();
        for (int i = 0; i < d; i++) {
            TreeMap<Integer, Long> form = new TreeMap<>();
            for (int j = 0; j < d; j++) {
                if (m[i][j] != 0) {
                    form.put(key(j == 0 ? 1 : 0, j == 1 ? 1 : 0, j == 2 ? 1 : 0), m[i][j]);
                }
            }
            List<TreeMap<Integer, Long>> list = new ArrayList<>();
            list.add(constant(1));
            for (int e = 1; e <= 15; e++) {
                list.add(e <= degree(f) ? mulPoly(list.get(e - 1), form) : null);
            }
            powers.add(list);
        }
        TreeMap<Integer, Long> r = new TreeMap<>();
        for (Map.Entry<Integer, Long> e : f.entrySet()) {
            TreeMap<Integer, Long> p = constant(e.getValue());
            for (int i = 0; i < d; i++) {
                p = mulPoly(p, powers.get(i).get(power(e.getKey(), i)));
            }
            r = addPoly(r, p, 1);
        }
        return r;
    }

    boolean leftAlone(TreeMap<Integer, Long> f) {
        for (long[][] m : group) {
            if (!move(f, m).equals(f)) {
                return false;
            }
        }
        return true;
    }

    List<Integer> monomials(int degree) {
        List<Integer> list = new ArrayList<>();
        for (int a = degree; a >= 0; a--) {
            for (int b = degree - a; b >= 0; b--) {
                if (d == 3 || a + b == degree) {
                    list.add(key(a, b, degree - a - b));
                }
            }
        }
        return list;
    }

    // ---- rows in steps

    /** Full reduction; answers the rows that are not 0. */
    static List<long[]> reduce(List<long[]> rows, int columns) {
        List<long[]> left = new ArrayList<>(rows);
        List<long[]> done = new ArrayList<>();
        for (int c = 0; c < columns; c++) {
            long[] pivot = null;
            for (int i = 0; i < left.size(); i++) {
                if (left.get(i)[c] != 0) {
                    pivot = left.remove(i);
                    break;
                }
            }
            if (pivot == null) {
                continue;
            }
            long f = INV[(int) pivot[c]];
            for (int j = 0; j < pivot.length; j++) {
                pivot[j] = pivot[j] * f % P;
            }
            for (long[] r : left) {
                clear(r, pivot, c);
            }
            for (long[] r : done) {
                clear(r, pivot, c);
            }
            done.add(pivot);
        }
        return done;
    }

    private static void clear(long[] r, long[] pivot, int c) {
        long f = P - r[c];
        if (r[c] != 0) {
            for (int j = 0; j < r.length; j++) {
                r[j] = (r[j] + f * pivot[j]) % P;
            }
        }
    }

    private static long[] row(TreeMap<Integer, Long> f, List<Integer> columns) {
        long[] r = new long[columns.size()];
        for (int i = 0; i < r.length; i++) {
            r[i] = f.getOrDefault(columns.get(i), 0L);
        }
        return r;
    }

    List<TreeMap<Integer, Long>> baseOf(int degree) {
        List<TreeMap<Integer, Long>> known = bases.get(degree);
        if (known != null) {
            return known;
        }
        List<Integer> columns = monomials(degree);
        int n = columns.size();
        List<long[]> equations = new ArrayList<>();
        for (long[][] m : told) {
            List<TreeMap<Integer, Long>> images = new ArrayList<>();
            for (int c : columns) {
                TreeMap<Integer, Long> one = new TreeMap<>();
                one.put(c, 1L);
                images.add(addPoly(move(one, m), one, -1));
            }
            for (int out : columns) {
                long[] equation = new long[n];
                for (int i = 0; i < n; i++) {
                    equation[i] = images.get(i).getOrDefault(out, 0L);
                }
                equations.add(equation);
            }
        }
        List<long[]> steps = reduce(equations, n);
        boolean[] bound = new boolean[n];
        int[] head = new int[steps.size()];
        for (int i = 0; i < steps.size(); i++) {
            while (steps.get(i)[head[i]] == 0) {
                head[i]++;
            }
            bound[head[i]] = true;
        }
        List<long[]> free = new ArrayList<>();
        for (int c = 0; c < n; c++) {
            if (!bound[c]) {
                long[] v = new long[n];
                v[c] = 1;
                for (int i = 0; i < steps.size(); i++) {
                    v[head[i]] = mod(-steps.get(i)[c]);
                }
                free.add(v);
            }
        }
        List<TreeMap<Integer, Long>> result = new ArrayList<>();
        for (long[] v : reduce(free, n)) {
            TreeMap<Integer, Long> f = new TreeMap<>();
            for (int i = 0; i < n; i++) {
                if (v[i] != 0) {
                    f.put(columns.get(i), v[i]);
                }
            }
            result.add(f);
        }
        bases.put(degree, result);
        return result;
    }

    boolean oneDegree(TreeMap<Integer, Long> f) {
        return f.isEmpty() || f.firstKey() >> 21 == f.lastKey() >> 21;
    }

    boolean isSystemOf(List<TreeMap<Integer, Long>> fs) {
        int degree = 1 - d;
        for (TreeMap<Integer, Long> f : fs) {
            if (degree(f) < 1 || !oneDegree(f) || !leftAlone(f)) {
                return false;
            }
            degree += degree(f);
        }
        List<Integer> columns = monomials(degree);
        List<long[]> rows = new ArrayList<>();
        for (TreeMap<Integer, Long> f : fs) {
            for (int m : monomials(degree - degree(f))) {
                TreeMap<Integer, Long> one = new TreeMap<>();
                one.put(m, 1L);
                rows.add(row(mulPoly(one, f), columns));
            }
        }
        return reduce(rows, columns.size()).size() == columns.size();
    }

    private static int compareRows(List<int[]> a, List<int[]> b) {
        int pa = 1;
        int pb = 1;
        for (int i = 0; i < a.size(); i++) {
            pa *= a.get(i)[0];
            pb *= b.get(i)[0];
        }
        if (pa != pb) {
            return pa - pb;
        }
        for (int i = 0; i < a.size(); i++) {
            int c = Arrays.compare(a.get(i), b.get(i));
            if (c != 0) {
                return c;
            }
        }
        return 0;
    }

    List<int[]> primaryOnes() {
        if (searched) {
            return primaries;
        }
        searched = true;
        List<int[]> all = new ArrayList<>();
        for (int degree = 1; degree <= 6; degree++) {
            for (int i = 0; i < baseOf(degree).size(); i++) {
                all.add(new int[] {degree, i});
            }
        }
        List<List<int[]>> asked = new ArrayList<>();
        for (int i = 0; i < all.size(); i++) {
            for (int j = i + 1; j < all.size(); j++) {
                int p = all.get(i)[0] * all.get(j)[0];
                if (d == 2 && p % group.size() == 0) {
                    asked.add(List.of(all.get(i), all.get(j)));
                }
                for (int k = j + 1; d == 3 && k < all.size(); k++) {
                    if (p * all.get(k)[0] % group.size() == 0) {
                        asked.add(List.of(all.get(i), all.get(j), all.get(k)));
                    }
                }
            }
        }
        asked.sort(Oracle::compareRows);
        for (int i = 0; i < asked.size() && i < 60 && primaries == null; i++) {
            List<TreeMap<Integer, Long>> fs = new ArrayList<>();
            for (int[] r : asked.get(i)) {
                fs.add(baseOf(r[0]).get(r[1]));
            }
            if (isSystemOf(fs)) {
                primaries = asked.get(i);
            }
        }
        return primaries;
    }

    private TreeMap<Integer, Long> ofLabel(List<Integer> label, List<int[]> seconds) {
        int[] s = seconds.get(label.get(0));
        TreeMap<Integer, Long> r = baseOf(s[0]).get(s[1]);
        for (int i = 0; i < d; i++) {
            int[] p = primaries.get(i);
            r = mulPoly(r, powPoly(baseOf(p[0]).get(p[1]), label.get(i + 1)));
        }
        return r;
    }

    private List<List<Integer>> labels(int degree, List<int[]> seconds) {
        List<List<Integer>> list = new ArrayList<>();
        for (int j = 0; j < seconds.size(); j++) {
            for (int a = 0; a <= 15; a++) {
                for (int b = 0; b <= 15; b++) {
                    for (int c = 0; c <= (d == 3 ? 15 : 0); c++) {
                        int sum = seconds.get(j)[0] + a * primaries.get(0)[0] + b * primaries.get(1)[0];
                        sum += d == 3 ? c * primaries.get(2)[0] : 0;
                        if (sum == degree) {
                            list.add(List.of(j, a, b, c));
                        }
                    }
                }
            }
        }
        return list;
    }

    List<int[]> secondaryOnes() {
        if (secondaries != null || primaryOnes() == null) {
            return secondaries;
        }
        List<int[]> found = new ArrayList<>();
        for (int degree = 0; degree <= 15; degree++) {
            List<Integer> columns = monomials(degree);
            List<long[]> rows = new ArrayList<>();
            for (List<Integer> label : labels(degree, found)) {
                rows.add(row(ofLabel(label, found), columns));
            }
            rows = reduce(rows, columns.size());
            List<TreeMap<Integer, Long>> base = baseOf(degree);
            for (int i = 0; i < base.size() && rows.size() < base.size(); i++) {
                List<long[]> more = new ArrayList<>();
                for (long[] r : rows) {
                    more.add(r.clone());
                }
                more.add(row(base.get(i), columns));
                more = reduce(more, columns.size());
                if (more.size() > rows.size()) {
                    rows = more;
                    found.add(new int[] {degree, i});
                }
            }
        }
        secondaries = found;
        return found;
    }

    /** The factors by label; found from equations, one for each monomial. */
    Map<List<Integer>, Long> rewriteOf(TreeMap<Integer, Long> f) {
        Map<List<Integer>, Long> result = new java.util.HashMap<>();
        for (int degree = 0; degree <= degree(f); degree++) {
            List<List<Integer>> labels = labels(degree, secondaryOnes());
            List<TreeMap<Integer, Long>> products = new ArrayList<>();
            for (List<Integer> label : labels) {
                products.add(ofLabel(label, secondaryOnes()));
            }
            List<long[]> equations = new ArrayList<>();
            for (int m : monomials(degree)) {
                long[] e = new long[labels.size() + 1];
                for (int i = 0; i < labels.size(); i++) {
                    e[i] = products.get(i).getOrDefault(m, 0L);
                }
                e[labels.size()] = f.getOrDefault(m, 0L);
                equations.add(e);
            }
            List<long[]> steps = reduce(equations, labels.size());
            if (steps.size() != labels.size()) {
                throw new IllegalStateException("not just one way");
            }
            for (int i = 0; i < labels.size(); i++) {
                if (steps.get(i)[labels.size()] != 0) {
                    result.put(labels.get(i), steps.get(i)[labels.size()]);
                }
            }
        }
        return result;
    }

    // ---- the face

    private boolean bad(int k) {
        return k < 0 || k > 5;
    }

    private boolean noMember(int g) {
        return g < 0 || g >= group.size();
    }

    private int order(int g) {
        long[][] m = group.get(g);
        int order = 1;
        while (!Arrays.deepEquals(m, group.get(0))) {
            m = mul(m, group.get(g));
            order++;
        }
        return order;
    }

    private int inverseOf(int g) {
        for (int h = 0; h < group.size(); h++) {
            if (times(g, h) == 0) {
                return h;
            }
        }
        return -1;
    }

    int group(int what) {
        int n = group.size();
        switch (what) {
            case 0:
                return n;
            case 1:
                return d;
            case 2:
                return told.size();
            case 3:
                java.util.Set<java.util.Set<Integer>> lots = new java.util.HashSet<>();
                for (int g = 0; g < n; g++) {
                    java.util.Set<Integer> lot = new java.util.TreeSet<>();
                    for (int h = 0; h < n; h++) {
                        lot.add(times(times(inverseOf(h), g), h));
                    }
                    lots.add(lot);
                }
                return lots.size();
            case 4:
                for (int e = 1;; e++) {
                    boolean all = true;
                    for (int g = 0; g < n; g++) {
                        all &= e % order(g) == 0;
                    }
                    if (all) {
                        return e;
                    }
                }
            case 5:
                for (int g = 0; g < n; g++) {
                    for (int h = 0; h < n; h++) {
                        if (times(g, h) != times(h, g)) {
                            return 0;
                        }
                    }
                }
                return 1;
            default:
                return -1;
        }
    }

    int member(int g, int row, int column) {
        if (noMember(g) || row < 0 || row >= d || column < 0 || column >= d) {
            return -1;
        }
        return (int) group.get(g)[row][column];
    }

    int times(int g, int h) {
        return noMember(g) || noMember(h) ? -1 : find(group, mul(group.get(g), group.get(h)));
    }

    int about(int g, int what) {
        if (noMember(g)) {
            return -1;
        }
        if (what == 3) {
            long sum = 0;
            for (int i = 0; i < d; i++) {
                sum += group.get(g)[i][i];
            }
            return (int) mod(sum);
        }
        return what == 0 ? inverseOf(g) : what == 1 ? order(g) : what == 2 ? (int) det(group.get(g)) : -1;
    }

    int of(int k, int what) {
        if (bad(k)) {
            return -1;
        }
        switch (what) {
            case 0:
                return degree(kept[k]);
            case 1:
                return kept[k].size();
            case 2:
                return leftAlone(kept[k]) ? 1 : 0;
            case 3:
                return oneDegree(kept[k]) ? 1 : 0;
            case 4:
                java.util.Set<TreeMap<Integer, Long>> unlike = new java.util.HashSet<>();
                for (long[][] m : group) {
                    unlike.add(move(kept[k], m));
                }
                return unlike.size();
            default:
                return -1;
        }
    }

    int factor(int k, int a, int b, int c) {
        if (bad(k) || a < 0 || b < 0 || c < 0 || a > 15 || b > 15 || c > 15 || d == 2 && c != 0) {
            return -1;
        }
        return (int) (long) kept[k].getOrDefault(key(a, b, c), 0L);
    }

    int term(int k, int i, int what) {
        if (bad(k) || i < 0 || i >= kept[k].size() || what < 0 || what > 3) {
            throw new NoSuchElementException();
        }
        int key = new ArrayList<>(kept[k].keySet()).get(i);
        return what == 0 ? (int) (long) kept[k].get(key) : power(key, what - 1);
    }

    int moved(int k, int g, int to) {
        if (bad(k) || bad(to) || noMember(g)) {
            return -1;
        }
        kept[to] = move(kept[k], group.get(g));
        return kept[to].size();
    }

    int average(int k, int to) {
        if (bad(k) || bad(to)) {
            return -1;
        }
        TreeMap<Integer, Long> sum = new TreeMap<>();
        for (long[][] m : group) {
            sum = addPoly(sum, move(kept[k], m), INV[group.size()]);
        }
        kept[to] = sum;
        return sum.size();
    }

    int plus(int a, int b, int f, int to) {
        if (bad(a) || bad(b) || bad(to)) {
            return -1;
        }
        kept[to] = addPoly(kept[a], kept[b], f);
        return kept[to].size();
    }

    int product(int a, int b, int to) {
        if (bad(a) || bad(b) || bad(to)) {
            return -1;
        }
        TreeMap<Integer, Long> p = mulPoly(kept[a], kept[b]);
        if (degree(p) > 15) {
            return -2;
        }
        kept[to] = p;
        return p.size();
    }

    int series(int degree) {
        return degree < 0 || degree > 15 ? -1 : baseOf(degree).size();
    }

    int base(int degree, int row, int to) {
        if (bad(to) || row < 0 || row >= series(degree)) {
            return -1;
        }
        kept[to] = baseOf(degree).get(row);
        return kept[to].size();
    }

    int isSystem(int a, int b, int c) {
        if (bad(a) || bad(b) || d == 3 && bad(c)) {
            return -1;
        }
        List<TreeMap<Integer, Long>> fs = new ArrayList<>(List.of(kept[a], kept[b]));
        if (d == 3) {
            fs.add(kept[c]);
        }
        int sum = 0;
        for (TreeMap<Integer, Long> f : fs) {
            sum += degree(f);
        }
        return sum > 18 ? -1 : isSystemOf(fs) ? 1 : 0;
    }

    int primary(int k, int what) {
        if (k < 0 || k >= d || what < 0 || what > 1 || primaryOnes() == null) {
            return -1;
        }
        return primaries.get(k)[what];
    }

    int secondaries() {
        return primaryOnes() == null ? -1 : secondaryOnes().size();
    }

    int secondary(int k, int what) {
        if (k < 0 || k >= secondaries() || what < 0 || what > 1) {
            return -1;
        }
        return secondaryOnes().get(k)[what];
    }

    int numerator(int degree) {
        if (degree < 0 || degree > 15 || primaryOnes() == null) {
            return -1;
        }
        int many = 0;
        for (int[] s : secondaryOnes()) {
            many += s[0] == degree ? 1 : 0;
        }
        return many;
    }

    int rewrite(int k) {
        if (bad(k) || primaryOnes() == null) {
            return -1;
        }
        if (!leftAlone(kept[k])) {
            return -2;
        }
        rewritten = rewriteOf(kept[k]);
        return rewritten.size();
    }

    private boolean badLabel(int j, int a, int b, int c) {
        return j < 0 || j >= secondaries() || a < 0 || b < 0 || c < 0 || d == 2 && c != 0;
    }

    int rewritten(int j, int a, int b, int c) {
        if (rewritten == null || badLabel(j, a, b, c)) {
            return -1;
        }
        return (int) (long) rewritten.getOrDefault(List.of(j, a, b, c), 0L);
    }

    int relation(int i, int h, int j, int a, int b, int c) {
        if (primaryOnes() == null || badLabel(i, 0, 0, 0) || badLabel(h, 0, 0, 0) || badLabel(j, a, b, c)) {
            return -1;
        }
        TreeMap<Integer, Long> p = mulPoly(ofLabel(List.of(i, 0, 0, 0), secondaryOnes()), ofLabel(List.of(h, 0, 0, 0), secondaryOnes()));
        if (degree(p) > 15) {
            return -2;
        }
        return (int) (long) rewriteOf(p).getOrDefault(List.of(j, a, b, c), 0L);
    }

    int count(int what) {
        return what == 0 ? tape.size() : what == 1 && rewritten != null ? rewritten.size() : -1;
    }
}
