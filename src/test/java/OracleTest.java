import java.util.List;
import java.util.NoSuchElementException;
import java.util.Random;

/** Runs of calls on many groups, each answer compared with that of the plain working. */
public final class OracleTest {
    private final Random random;
    private InvariantWorks works;
    private Oracle oracle;
    private String where;
    private int calls;

    private OracleTest(long seed) {
        random = new Random(seed);
    }

    public static void main(String[] args) {
        int from = args.length > 0 ? Integer.parseInt(args[0]) : 0;
        int rounds = args.length > 1 ? Integer.parseInt(args[1]) : 1;
        boolean dense = args.length > 2;
        List<List<long[][]>> sets = Groups.sets();
        for (int round = from; round < from + rounds; round++) {
            for (int s = 0; s < sets.size(); s++) {
                OracleTest test = new OracleTest(1000L * round + s);
                test.run(sets.get(s), s + " in round " + round, dense, round);
            }
            new OracleTest(77 + round).texts(args.length > 1 ? 20000 : 4000);
        }
        Checks.end();
    }

    private void due(String call, int got, int want) {
        calls++;
        Checks.due(where + ": " + call, got, want);
    }

    private void run(List<long[][]> set, String name, boolean dense, int round) {
        works = new InvariantWorks();
        oracle = new Oracle();
        List<long[][]> told = set;
        if (round > 0 || set.get(0).length == 2) {
            int kind = random.nextInt(3);
            if (kind > 0 && (set.get(0).length == 2 || dense || kind == 1)) {
                told = Groups.conjugate(set, random, kind == 1 ? 2 : 2521);
            }
        }
        String text = Groups.text(told, random);
        where = "group " + name + " " + text;
        tellTables(text);
        long begin = System.nanoTime();
        group();
        bases();
        primaries();
        for (int i = 0; i < 40; i++) {
            polynomials();
        }
        long ms = (System.nanoTime() - begin) / 1000000;
        if (ms > 20000) {
            System.out.println(where + " took " + ms + " ms");
        }
    }

    private void tape(String text) {
        for (int[] w : Checks.words(Checks.bytes(text))) {
            due("feed", works.feed(w[0], w[1], w[2], w[3], w[4]), oracle.feed(w));
        }
    }

    private void tellTables(String text) {
        tape(text);
        due("tables " + text, works.tables(text.length()), oracle.tables(text.length()));
    }

    private void tellPolynomial(int k, String text) {
        tape(text);
        due("polynomial " + text, works.polynomial(k, text.length()), oracle.polynomial(k, text.length()));
        same(k);
    }

    private void same(int k) {
        int terms = oracle.kept[k].size();
        due("terms", works.of(k, 1), terms);
        for (int i = 0; i < terms; i++) {
            for (int what = 0; what < 4; what++) {
                int got;
                try {
                    got = works.term(k, i, what);
                } catch (NoSuchElementException none) {
                    got = -99;
                }
                due("term(" + k + ", " + i + ", " + what + ")", got, oracle.term(k, i, what));
            }
        }
    }

    private void group() {
        for (int what = -1; what < 7; what++) {
            due("group(" + what + ")", works.group(what), oracle.group(what));
        }
        int n = oracle.group.size();
        for (int g = -1; g <= n; g++) {
            for (int h = -1; h <= n; h++) {
                due("times(" + g + ", " + h + ")", works.times(g, h), oracle.times(g, h));
            }
            for (int what = -1; what < 5; what++) {
                due("about(" + g + ", " + what + ")", works.about(g, what), oracle.about(g, what));
            }
            for (int i = -1; i < 4; i++) {
                for (int j = -1; j < 4; j++) {
                    due("member", works.member(g, i, j), oracle.member(g, i, j));
                }
            }
        }
    }

    private void bases() {
        for (int degree = -1; degree < 17; degree++) {
            due("series(" + degree + ")", works.series(degree), oracle.series(degree));
        }
        for (int degree = 15; degree >= 0; degree--) {
            for (int row = -1; row <= oracle.series(degree); row++) {
                int to = random.nextInt(6);
                due("base(" + degree + ", " + row + ")", works.base(degree, row, to), oracle.base(degree, row, to));
                same(to);
            }
        }
    }

    private void primaries() {
        for (int k = -1; k < 4; k++) {
            for (int what = -1; what < 3; what++) {
                due("primary(" + k + ", " + what + ")", works.primary(k, what), oracle.primary(k, what));
            }
        }
        due("secondaries", works.secondaries(), oracle.secondaries());
        for (int k = -1; k <= oracle.secondaries(); k++) {
            for (int what = -1; what < 3; what++) {
                due("secondary(" + k + ", " + what + ")", works.secondary(k, what), oracle.secondary(k, what));
            }
        }
        for (int degree = -1; degree < 17; degree++) {
            due("numerator(" + degree + ")", works.numerator(degree), oracle.numerator(degree));
        }
        for (int i = 0; i < 6; i++) {
            relation();
        }
    }

    private void relation() {
        int many = Math.max(1, oracle.secondaries());
        int i = random.nextInt(many);
        int h = random.nextInt(many);
        for (int j = -1; j <= Math.min(many, 6); j++) {
            int[] p = {random.nextInt(4) - random.nextInt(2), random.nextInt(3), random.nextInt(3) - random.nextInt(2)};
            if (random.nextBoolean()) {
                p = new int[3];
            }
            due("relation(" + i + "," + h + "," + j + "," + p[0] + "," + p[1] + "," + p[2] + ")",
                    works.relation(i, h, j, p[0], p[1], p[2]), oracle.relation(i, h, j, p[0], p[1], p[2]));
        }
        if (oracle.secondaries() > 0) {
            int degree = oracle.secondary(i, 0) + oracle.secondary(h, 0);
            if (degree <= 15) {
                for (int a = 0; a <= 3; a++) {
                    for (int b = 0; b <= 2; b++) {
                        int j = random.nextInt(many);
                        due("relation(" + i + "," + h + "," + j + "," + a + "," + b + ", 0)",
                                works.relation(i, h, j, a, b, 0), oracle.relation(i, h, j, a, b, 0));
                    }
                }
            }
        }
    }

    private int slot() {
        return random.nextInt(20) == 0 ? random.nextInt(9) - 2 : random.nextInt(6);
    }

    private void polynomials() {
        int k = slot();
        int to = slot();
        int b = slot();
        switch (random.nextInt(10)) {
            case 0:
                tellPolynomial(random.nextInt(6), sum(2, random.nextInt(3)));
                break;
            case 1:
                int g = random.nextInt(oracle.group.size() + 1);
                due("moved", works.moved(k, g, to), oracle.moved(k, g, to));
                break;
            case 2:
                due("average(" + k + ", " + to + ")", works.average(k, to), oracle.average(k, to));
                break;
            case 3:
                int f = random.nextInt();
                due("plus", works.plus(k, b, f, to), oracle.plus(k, b, f, to));
                break;
            case 4:
                due("product", works.product(k, b, to), oracle.product(k, b, to));
                break;
            case 5:
                due("of", works.of(k, 0), oracle.of(k, 0));
                due("of", works.of(k, 2), oracle.of(k, 2));
                due("of", works.of(k, 3), oracle.of(k, 3));
                due("of 4", works.of(k, 4), oracle.of(k, 4));
                break;
            case 6:
                int c = slot();
                due("isSystem(" + k + ", " + b + ", " + c + ")", works.isSystem(k, b, c), oracle.isSystem(k, b, c));
                break;
            case 7:
                int degree = random.nextInt(7);
                due("base", works.base(degree, 0, to), oracle.base(degree, 0, to));
                break;
            default:
                rewrite(k);
        }
        for (int i = 0; i < 6; i++) {
            same(i);
        }
        due("count(1)", works.count(1), oracle.count(1));
    }

    private void rewrite(int k) {
        due("rewrite(" + k + ")", works.rewrite(k), oracle.rewrite(k));
        int many = Math.max(1, oracle.secondaries());
        for (int i = 0; i < 60; i++) {
            int j = random.nextInt(20) == 0 ? many : random.nextInt(many);
            int a = random.nextInt(6) - random.nextInt(2);
            int b = random.nextInt(4);
            int c = random.nextInt(3);
            due("rewritten", works.rewritten(j, a, b, c), oracle.rewritten(j, a, b, c));
        }
    }

    // ---- texts

    private String number() {
        String all = Integer.toString(random.nextInt(10000));
        return random.nextInt(3) == 0 ? all : Integer.toString(random.nextInt(12));
    }

    private String blank() {
        return random.nextInt(8) == 0 ? (random.nextBoolean() ? " " : "\n") : "";
    }

    private String sum(int many, int depth) {
        StringBuilder text = new StringBuilder(random.nextInt(4) == 0 ? "-" : "");
        int terms = 1 + random.nextInt(many + 1);
        for (int i = 0; i < terms; i++) {
            text.append(i == 0 ? "" : random.nextBoolean() ? "+" : "-").append(blank());
            int factors = 1 + random.nextInt(3);
            for (int j = 0; j < factors; j++) {
                text.append(j == 0 ? "" : "*").append(blank()).append(part(depth)).append(blank());
                if (random.nextInt(3) == 0) {
                    text.append("^").append(blank()).append(random.nextInt(30) == 0 ? random.nextInt(120) : random.nextInt(5));
                }
            }
        }
        return text.toString();
    }

    private String part(int depth) {
        int kind = random.nextInt(depth > 0 ? 6 : 4);
        if (kind > 3) {
            return "(" + sum(2, depth - 1) + ")";
        }
        return kind == 0 ? number() : String.valueOf("xyz".charAt(random.nextInt(oracle.d)));
    }

    private String spoiled(String text) {
        StringBuilder all = new StringBuilder(text);
        int changes = random.nextInt(3);
        for (int i = 0; i < changes; i++) {
            int at = random.nextInt(all.length() + 1);
            String signs = "xyz;/-+*^() 0123456789\n\t?\u00e9\u0000a";
            char sign = signs.charAt(random.nextInt(signs.length()));
            int kind = random.nextInt(3);
            if (kind == 0 || at == all.length()) {
                all.insert(at, sign);
            } else if (kind == 1) {
                all.setCharAt(at, sign);
            } else {
                all.deleteCharAt(at);
            }
        }
        return all.length() > 380 ? all.substring(0, 380) : all.toString();
    }

    private String tables() {
        StringBuilder text = new StringBuilder();
        int many = 1 + random.nextInt(5);
        int d = 2 + random.nextInt(2);
        for (int t = 0; t < many; t++) {
            text.append(t == 0 ? "" : ";").append(blank());
            int rows = random.nextInt(30) == 0 ? 5 - d : d;
            for (int i = 0; i < rows; i++) {
                text.append(i == 0 ? "" : "/").append(blank());
                for (int j = 0; j < d; j++) {
                    boolean below = random.nextInt(4) == 0;
                    int v = i == j ? 1 : 0;
                    v = random.nextInt(12) == 0 ? random.nextInt(3) : v;
                    text.append(j == 0 || below ? "" : " ").append(below ? "-" + blank() : "").append(v).append(blank());
                }
            }
        }
        return text.toString();
    }

    private void texts(int many) {
        for (int i = 0; i < many; i++) {
            if (i % 40 == 0) {
                works = new InvariantWorks();
                oracle = new Oracle();
            }
            where = "text " + i;
            if (random.nextInt(3) == 0) {
                tellTables(spoiled(tables()));
                due("group", works.group(0), oracle.group(0));
                due("group", works.group(1), oracle.group(1));
                due("group", works.group(2), oracle.group(2));
            } else if (random.nextInt(12) == 0) {
                StringBuilder deep = new StringBuilder();
                int open = 6 + random.nextInt(5);
                for (int j = 0; j < open; j++) {
                    deep.append(blank()).append(random.nextInt(9) == 0 ? "1+" : "").append("(");
                }
                deep.append("x-1");
                for (int j = 0; j < open; j++) {
                    deep.append(")").append(random.nextInt(9) == 0 ? "^2" : "");
                }
                tellPolynomial(random.nextInt(6), spoiled(deep.toString()));
            } else {
                tellPolynomial(random.nextInt(6), spoiled(sum(3, random.nextInt(4))));
            }
        }
    }
}
