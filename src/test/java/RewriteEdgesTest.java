import java.util.List;
import java.util.Random;

/** What is rewritten: each sentence of the document that names a boundary has its test. */
public final class RewriteEdgesTest {
    private static final String SWAP = "0 1/1 0";
    private static final String ALL3 = "0 1 0/0 0 1/1 0 0;0 1 0/1 0 0/0 0 1";
    private static final String MINUS3 = "-1 0 0/0 -1 0/0 0 -1";
    /** Twelve members, primary ones of degrees 6, 6, 6, secondary ones up to degree 15. */
    private static final String HIGH = "676 0 0/0 676 0/0 0 1845;0 1 0/1 0 0/0 0 -1";

    private RewriteEdgesTest() {
    }

    public static void main(String[] args) {
        justOneWay();
        staysTillDoneAgain();
        staysTillNewTables();
        products();
        rewriteNone();
        rewriteNotAlone();
        factors();
        nothingIs();
        rewrittenOthers();
        twoVariables();
        relations();
        relationStays();
        relationOthers();
        relationTooHigh();
        countTape();
        countProducts();
        countOthers();
        Checks.end();
    }

    private static void due(String call, long got, long want) {
        Checks.due(call, got, want);
    }

    // ---- rewrite()

    private static void justOneWay() {
        Checks.says("REWRITTEN is one LEFT ALONE as a sum of products: a factor, PRIMARY ones to some powers, one SECONDARY: there is just one way");
        String[] groups = {"1 0/0 1", SWAP, "-1 0/0 -1", "0 1/-1 0", ALL3, MINUS3, HIGH};
        for (String text : groups) {
            for (int seed = 0; seed < 3; seed++) {
                builtAndRewritten(text, new Random(seed));
            }
        }
        // seen in other variables, where hardly a factor is 0
        Random random = new Random(9);
        for (List<long[][]> set : Groups.sets()) {
            String text = Groups.text(Groups.conjugate(set, random, 2521), random);
            if (Checks.with(text).secondaries() > 0) {
                builtAndRewritten(text, random);
            }
        }
    }

    /** A sum of a few products, built by plus() and product(), has just these factors. */
    private static void builtAndRewritten(String text, Random random) {
        InvariantWorks w = Checks.with(text);
        int d = w.group(1);
        w.plus(0, 0, -1, 0);
        int[][] told = new int[4][5];
        int made = 0;
        for (int i = 0; i < 4; i++) {
            int[] t = {random.nextInt(w.secondaries()), random.nextInt(3), random.nextInt(3), d == 3 ? random.nextInt(2) : 0, 1 + random.nextInt(2520)};
            int degree = w.secondary(t[0], 0);
            for (int v = 0; v < d; v++) {
                degree += t[v + 1] * w.primary(v, 0);
            }
            boolean known = false;
            for (int j = 0; j < made; j++) {
                known = known || told[j][0] == t[0] && told[j][1] == t[1] && told[j][2] == t[2] && told[j][3] == t[3];
            }
            if (degree <= 15 && !known) {
                told[made++] = t;
                addProduct(w, t, d);
            }
        }
        due("products of " + text, w.rewrite(0), made);
        for (int j = 0; j < made; j++) {
            int[] t = told[j];
            due("factor of " + text, w.rewritten(t[0], t[1], t[2], t[3]), t[4]);
        }
    }

    private static void addProduct(InvariantWorks w, int[] t, int d) {
        w.base(w.secondary(t[0], 0), w.secondary(t[0], 1), 1);
        for (int v = 0; v < d; v++) {
            w.base(w.primary(v, 0), w.primary(v, 1), 2);
            for (int i = 0; i < t[v + 1]; i++) {
                w.product(1, 2, 1);
            }
        }
        w.plus(0, 1, t[4], 0);
    }

    private static void staysTillDoneAgain() {
        Checks.says("What is REWRITTEN stays, till rewrite() is done again");
        InvariantWorks w = Checks.with(SWAP);
        Checks.polynomial(w, 0, "3*(x+y)+2");
        due("products", w.rewrite(0), 2);
        Checks.polynomial(w, 0, "x*y");
        w.moved(0, 1, 1);
        w.average(0, 2);
        w.plus(0, 0, 5, 0);
        w.product(0, 0, 0);
        w.base(3, 0, 3);
        w.isSystem(0, 1, 2);
        w.relation(0, 0, 0, 0, 0, 0);
        due("products", w.count(1), 2);
        due("x + y", w.rewritten(0, 1, 0, 0), 3);
        due("1", w.rewritten(0, 0, 0, 0), 2);
        Checks.polynomial(w, 0, "x^15+y^15");
        Checks.holds("done again, of degree 15", w.rewrite(0) > 2);
        due("x + y is gone", w.rewritten(0, 1, 0, 0), 0);
        due("1 is gone", w.rewritten(0, 0, 0, 0), 0);
        Checks.polynomial(w, 0, "x+y");
        due("done again, of degree 1", w.rewrite(0), 1);
        for (int a = 0; a <= 15; a++) {
            for (int b = 0; a + 2 * b <= 15; b++) {
                due("all of degree 15 are gone", w.rewritten(0, a, b, 0), a == 1 && b == 0 ? 1 : 0);
            }
        }
    }

    private static void staysTillNewTables() {
        Checks.says("or there are new TABLES");
        InvariantWorks w = Checks.with(SWAP);
        Checks.polynomial(w, 0, "3*(x+y)+2");
        w.rewrite(0);
        Checks.tables(w, "1 0/0 0");
        Checks.tables(w, "1 1/0 1");
        Checks.tables(w, "?");
        w.tables(-1);
        w.tables(1);
        due("tables that are refused leave it", w.count(1), 2);
        due("tables that are refused leave it", w.rewritten(0, 1, 0, 0), 3);
        due("the same tables again", Checks.tables(w, SWAP), 2);
        due("nothing is", w.count(1), -1);
        due("nothing is", w.rewritten(0, 1, 0, 0), -1);
        due("rewritten anew", w.rewrite(0), 2);
        Checks.tables(w, "1 0/0 " + Groups.root(7));
        due("where there are no primary ones", w.count(1), -1);
        due("where there are no primary ones", w.rewritten(0, 0, 0, 0), -1);
    }

    private static void products() {
        Checks.says("The one kept as k is REWRITTEN: how many products");
        InvariantWorks w = Checks.with(ALL3);
        due("0 has none", w.rewrite(0), 0);
        due("0 is rewritten all the same", w.count(1), 0);
        due("each factor is 0", w.rewritten(0, 0, 0, 0), 0);
        Checks.polynomial(w, 5, "2520");
        due("a number, kept as 5", w.rewrite(5), 1);
        due("a number", w.rewritten(0, 0, 0, 0), 2520);
        Checks.polynomial(w, 0, "(x+y+z)^15");
        due("of degree 15, one product", w.rewrite(0), 1);
        due("of degree 15, one product", w.rewritten(0, 15, 0, 0), 1);
        Checks.polynomial(w, 0, "(x^3+y^3+z^3)^5+(x+y+z)^15+1");
        due("three products", w.rewrite(0), 3);
        due("the third one to 5", w.rewritten(0, 0, 0, 5), 1);
        w = Checks.with(HIGH);
        w.base(15, 8, 0);
        due("the last secondary one", w.rewrite(0), 1);
        due("the last secondary one", w.rewritten(17, 0, 0, 0), 1);
        for (int row = 0; row < w.series(15); row++) {
            w.base(15, row, 0);
            Checks.holds("each of degree 15 has some", w.rewrite(0) > 0);
        }
    }

    private static void rewriteNone() {
        Checks.says("NONE: no such k, no PRIMARY ones .. (what was REWRITTEN stays in both)");
        InvariantWorks w = Checks.with(SWAP);
        for (int k : Checks.outside(5)) {
            due("rewrite(" + k + ")", w.rewrite(k), -1);
            due("nothing is", w.count(1), -1);
        }
        Checks.polynomial(w, 0, "3*(x+y)+2");
        w.rewrite(0);
        for (int k : Checks.outside(5)) {
            due("rewrite(" + k + ")", w.rewrite(k), -1);
        }
        due("it stays", w.count(1), 2);
        due("it stays", w.rewritten(0, 1, 0, 0), 3);
        w = Checks.with("1 0/0 " + Groups.root(7));
        due("no primary ones", w.rewrite(0), -1);
        Checks.polynomial(w, 0, "y");
        due("no primary ones, and not left alone", w.rewrite(0), -1);
    }

    private static void rewriteNotAlone() {
        Checks.says("else -2: it is not LEFT ALONE (what was REWRITTEN stays in both)");
        InvariantWorks w = Checks.with(SWAP);
        Checks.polynomial(w, 1, "x");
        due("x", w.rewrite(1), -2);
        due("nothing is", w.count(1), -1);
        Checks.polynomial(w, 0, "3*(x+y)+2");
        w.rewrite(0);
        for (String text : new String[] {"x", "y", "x-y", "x+y+x^15", "x^15", "x^2*y"}) {
            Checks.polynomial(w, 1, text);
            due(text, w.rewrite(1), -2);
            due("it stays", w.count(1), 2);
            due("it stays", w.rewritten(0, 1, 0, 0), 3);
        }
    }

    // ---- rewritten()

    private static void factors() {
        Checks.says("The factor of the product of the j-th SECONDARY one and PRIMARY ones to the powers a, b, c");
        InvariantWorks w = Checks.with(MINUS3);
        Checks.polynomial(w, 0, "2*x^14+3*y^14+4*z^14+5*x*y*z^12+6*y*z+7-8*x^3*z");
        due("products", w.rewrite(0), 7);
        due("x^14", w.rewritten(0, 7, 0, 0), 2);
        due("y^14", w.rewritten(0, 0, 7, 0), 3);
        due("z^14", w.rewritten(0, 0, 0, 7), 4);
        due("xy z^12", w.rewritten(1, 0, 0, 6), 5);
        due("yz", w.rewritten(3, 0, 0, 0), 6);
        due("1", w.rewritten(0, 0, 0, 0), 7);
        due("x^2 xz", w.rewritten(2, 1, 0, 0), 2513);
        due("x^16 would be of degree 16", w.rewritten(0, 8, 0, 0), 0);
        due("xz x^14 would be of degree 16", w.rewritten(2, 7, 0, 0), 0);
        due("of degree 42", w.rewritten(0, 7, 7, 7), 0);
        for (int high : new int[] {16, 1000, 1 << 30, Integer.MAX_VALUE}) {
            due("a " + high, w.rewritten(0, high, 0, 0), 0);
            due("b " + high, w.rewritten(0, 0, high, 0), 0);
            due("c " + high, w.rewritten(3, 0, 0, high), 0);
            due("all " + high, w.rewritten(3, high, high, high), 0);
        }
        // 2 * 2^31 is 0 for an int
        due("a that wraps around", w.rewritten(0, 1 << 30, 1 << 30, 0), 0);
    }

    private static void nothingIs() {
        Checks.says("rewritten: NONE: nothing is");
        InvariantWorks w = Checks.with(SWAP);
        due("none is", w.rewritten(0, 0, 0, 0), -1);
        due("secondary ones are known", w.secondaries(), 1);
        due("none is", w.rewritten(0, 0, 0, 0), -1);
        due("a relation is none", w.relation(0, 0, 0, 0, 0, 0), 1);
        due("none is", w.rewritten(0, 0, 0, 0), -1);
        due("0 is", w.rewrite(0), 0);
        due("0 is", w.rewritten(0, 0, 0, 0), 0);
    }

    private static void rewrittenOthers() {
        Checks.says("NONE: others (no such SECONDARY one, powers below 0)");
        InvariantWorks w = Checks.with(MINUS3);
        Checks.polynomial(w, 0, "x*y+1");
        w.rewrite(0);
        due("the last secondary one", w.rewritten(3, 0, 0, 0), 0);
        for (int j : Checks.outside(3)) {
            due("j " + j, w.rewritten(j, 0, 0, 0), -1);
        }
        for (int low : new int[] {-1, -2, Integer.MIN_VALUE, -(1 << 30)}) {
            due("a " + low, w.rewritten(0, low, 0, 0), -1);
            due("b " + low, w.rewritten(0, 0, low, 0), -1);
            due("c " + low, w.rewritten(0, 0, 0, low), -1);
            due("all " + low, w.rewritten(0, low, low, low), -1);
        }
        due("they don't make up for each other", w.rewritten(0, -1, 1, 0), -1);
    }

    private static void twoVariables() {
        Checks.says("(with D 2 c 0)");
        InvariantWorks w = Checks.with(SWAP);
        Checks.polynomial(w, 0, "x*y+1");
        w.rewrite(0);
        for (int c : new int[] {1, -1, 2, 15, Integer.MAX_VALUE, Integer.MIN_VALUE}) {
            due("rewritten, c " + c, w.rewritten(0, 0, 0, c), -1);
            due("relation, c " + c, w.relation(0, 0, 0, 0, 0, c), -1);
        }
        due("rewritten, c 0", w.rewritten(0, 0, 0, 0), 1);
        due("relation, c 0", w.relation(0, 0, 0, 0, 0, 0), 1);
    }

    // ---- relation()

    private static void relations() {
        Checks.says("Likewise in the product of two SECONDARY ones, REWRITTEN");
        for (List<long[][]> set : Groups.sets()) {
            Random random = new Random(8);
            InvariantWorks w = Checks.with(Groups.text(set, random));
            int many = w.secondaries();
            for (int i = 0; i < 4 && many > 0; i++) {
                related(w, random.nextInt(many), random.nextInt(many));
            }
        }
        InvariantWorks w = Checks.with(MINUS3);
        due("xy xz = x^2 yz", w.relation(1, 2, 3, 1, 0, 0), 1);
        due("xz xy = x^2 yz", w.relation(2, 1, 3, 1, 0, 0), 1);
        due("xy xy = x^2 y^2", w.relation(1, 1, 0, 1, 1, 0), 1);
        due("1 1 = 1", w.relation(0, 0, 0, 0, 0, 0), 1);
        due("1 1 is no xy", w.relation(0, 0, 1, 0, 0, 0), 0);
        due("powers too high", w.relation(1, 1, 0, 8, 0, 0), 0);
        due("powers too high", w.relation(1, 1, 0, Integer.MAX_VALUE, Integer.MAX_VALUE, Integer.MAX_VALUE), 0);
        due("powers that wrap around", w.relation(0, 0, 0, 1 << 30, 1 << 30, 0), 0);
    }

    /** The product, multiplied out and rewritten, has the same factors. */
    private static void related(InvariantWorks w, int i, int h) {
        w.base(w.secondary(i, 0), w.secondary(i, 1), 0);
        w.base(w.secondary(h, 0), w.secondary(h, 1), 1);
        if (w.product(0, 1, 2) < 0) {
            due("relation(" + i + ", " + h + ")", w.relation(i, h, 0, 0, 0, 0), -2);
            return;
        }
        w.rewrite(2);
        for (int j = 0; j < w.secondaries(); j++) {
            for (int p = 0; p < 27; p++) {
                int c = w.group(1) == 3 ? p % 3 : 0;
                due("relation(" + i + ", " + h + ")", w.relation(i, h, j, p / 9, p / 3 % 3, c), w.rewritten(j, p / 9, p / 3 % 3, c));
            }
        }
    }

    private static void relationStays() {
        Checks.says("(what is told by rewritten() stays)");
        InvariantWorks w = Checks.with(MINUS3);
        due("nothing is", w.relation(1, 1, 0, 1, 1, 0), 1);
        due("nothing is", w.count(1), -1);
        due("nothing is", w.rewritten(0, 1, 1, 0), -1);
        Checks.polynomial(w, 0, "x*y+7");
        w.rewrite(0);
        due("xy xz", w.relation(1, 2, 3, 1, 0, 0), 1);
        due("it stays", w.count(1), 2);
        due("it stays", w.rewritten(1, 0, 0, 0), 1);
        due("it stays", w.rewritten(0, 0, 0, 0), 7);
        due("it stays", w.rewritten(3, 1, 0, 0), 0);
        due("kept stay", w.of(0, 1), 2);
    }

    private static void relationOthers() {
        Checks.says("relation: NONE: others");
        InvariantWorks w = Checks.with(MINUS3);
        for (int k : Checks.outside(3)) {
            due("i " + k, w.relation(k, 0, 0, 0, 0, 0), -1);
            due("h " + k, w.relation(0, k, 0, 0, 0, 0), -1);
            due("j " + k, w.relation(0, 0, k, 0, 0, 0), -1);
        }
        for (int low : new int[] {-1, -2, Integer.MIN_VALUE}) {
            due("a " + low, w.relation(0, 0, 0, low, 0, 0), -1);
            due("b " + low, w.relation(0, 0, 0, 0, low, 0), -1);
            due("c " + low, w.relation(0, 0, 0, 0, 0, low), -1);
        }
        due("the last ones", w.relation(3, 3, 3, 0, 0, 0), 0);
        w = Checks.with("1 0/0 " + Groups.root(7));
        due("no primary ones", w.relation(0, 0, 0, 0, 0, 0), -1);
        w = Checks.with(HIGH);
        due("not -2: j", w.relation(17, 17, 18, 0, 0, 0), -1);
        due("not -2: a", w.relation(17, 17, 0, -1, 0, 0), -1);
        due("not -2: h", w.relation(17, 18, 0, 0, 0, 0), -1);
    }

    private static void relationTooHigh() {
        Checks.says("else -2: it is of a degree above 15");
        InvariantWorks w = Checks.with(HIGH);
        due("degree 15 and 0", w.relation(17, 0, 17, 0, 0, 0), 1);
        due("degree 0 and 15", w.relation(0, 17, 17, 0, 0, 0), 1);
        due("degree 15 and 3", w.relation(17, 1, 17, 0, 0, 0), -2);
        due("degree 15 and 15", w.relation(17, 17, 0, 0, 0, 0), -2);
        for (int i = 0; i < 18; i++) {
            for (int h = 0; h < 18; h++) {
                boolean high = w.secondary(i, 0) + w.secondary(h, 0) > 15;
                due("degrees of " + i + " and " + h, w.relation(i, h, 0, 0, 0, 0) == -2 ? 1 : 0, high ? 1 : 0);
            }
        }
        // 1, xy, x^2y^2, x^3y^3 and so on, of degrees 0, 2, 4, 6, 8, 10
        w = Checks.with(Groups.root(6) + " 0/0 " + Oracle.inv(Groups.root(6)));
        due("the last is of degree 10", w.secondary(5, 0), 10);
        due("degree 14", w.relation(5, 2, 1, 1, 1, 0), 1);
        due("degree 16", w.relation(5, 3, 2, 1, 1, 0), -2);
    }

    // ---- count()

    private static void countTape() {
        Checks.says("What 0: bytes on THE TAPE");
        InvariantWorks w = new InvariantWorks();
        due("empty", w.count(0), 0);
        for (int i = 1; i <= 20; i++) {
            w.feed(0, 0, 0, 0, 0);
            due("bytes", w.count(0), 20 * i);
        }
        w.feed(0, 0, 0, 0, 0);
        due("full", w.count(0), 400);
        w.polynomial(6, 3);
        due("it stays", w.count(0), 400);
        w.polynomial(0, 3);
        due("empty", w.count(0), 0);
    }

    private static void countProducts() {
        Checks.says("1: products in what is REWRITTEN (NONE: nothing is)");
        InvariantWorks w = Checks.with(SWAP);
        due("nothing is", w.count(1), -1);
        w.rewrite(0);
        due("0", w.count(1), 0);
        Checks.polynomial(w, 0, "(x+y)^15+(x+y)^3+x*y+2");
        due("five", w.rewrite(0), 5);
        due("five", w.count(1), 5);
        Checks.tables(w, SWAP);
        due("nothing is", w.count(1), -1);
    }

    private static void countOthers() {
        Checks.says("NONE for another what");
        InvariantWorks w = Checks.with(SWAP);
        w.feed(0, 0, 0, 0, 0);
        w.rewrite(0);
        for (int what : Checks.outside(1)) {
            due("count(" + what + ")", w.count(what), -1);
        }
    }
}
