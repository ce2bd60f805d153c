import java.util.NoSuchElementException;

/** What is done with polynomials: each sentence of the document that names a boundary has its test. */
public final class PolynomialEdgesTest {
    private static final String SWAP = "0 1/1 0";
    private static final String ONE3 = "1 0 0/0 1 0/0 0 1";
    private static final String ALL3 = "0 1 0/0 0 1/1 0 0;0 1 0/1 0 0/0 0 1";

    private PolynomialEdgesTest() {
    }

    public static void main(String[] args) {
        keptAtFirst();
        keptThroughTables();
        monomials();
        terms();
        zeroDegree();
        leftAlone();
        ofOneDegree();
        ofUnlike();
        ofOthers();
        factorEdges();
        factorOthers();
        termWhat();
        termOthers();
        moved();
        movedOthers();
        average();
        averageOthers();
        plus();
        plusOthers();
        product();
        productOthers();
        productTooHigh();
        Checks.end();
    }

    private static void due(String call, long got, long want) {
        Checks.due(call, got, want);
    }

    private static InvariantWorks holding(String tables) {
        InvariantWorks w = Checks.with(tables);
        for (int k = 0; k < 6; k++) {
            Checks.polynomial(w, k, (k + 1) + "*x*y+x^" + (k + 1));
        }
        return w;
    }

    // ---- what is kept, and its order

    private static void keptAtFirst() {
        Checks.says("Six POLYNOMIALS, 0 to 5, are kept (at first 0 each");
        InvariantWorks w = new InvariantWorks();
        for (int k = 0; k < 6; k++) {
            due("degree", w.of(k, 0), 0);
            due("terms", w.of(k, 1), 0);
            due("factor", w.factor(k, 0, 0, 0), 0);
        }
        w = holding(SWAP);
        for (int k = 0; k < 6; k++) {
            due("each of its own", w.of(k, 0), Math.max(2, k + 1));
            due("each of its own", w.factor(k, 1, 1, 0), k + 1);
        }
    }

    private static void keptThroughTables() {
        Checks.says("new TABLES leave them, but if D changes they are 0)");
        InvariantWorks w = holding(SWAP);
        String[] told = new String[6];
        for (int k = 0; k < 6; k++) {
            told[k] = Checks.told(w, k);
        }
        Checks.tables(w, "-1 0/0 -1");
        for (int k = 0; k < 6; k++) {
            Checks.due("left by new tables", Checks.told(w, k), told[k]);
        }
        Checks.tables(w, "-1 0 0/0 -1 0/0 0 ?");
        for (int k = 0; k < 6; k++) {
            Checks.due("left by tables that have a fault", Checks.told(w, k), told[k]);
        }
        Checks.tables(w, ONE3);
        for (int k = 0; k < 6; k++) {
            Checks.due("D 2 to 3: 0", Checks.told(w, k), "");
            Checks.polynomial(w, k, "(x+y+z+1)^15");
        }
        Checks.tables(w, ALL3);
        for (int k = 0; k < 6; k++) {
            due("left with D 3, too", w.of(k, 1), 816);
        }
        Checks.tables(w, SWAP);
        for (int k = 0; k < 6; k++) {
            Checks.due("D 3 to 2: 0", Checks.told(w, k), "");
        }
        Checks.tables(w, ONE3);
        for (int k = 0; k < 6; k++) {
            Checks.due("D 2 to 3: 0", Checks.told(w, k), "");
        }
    }

    private static void monomials() {
        Checks.says("MONOMIALS: of the greater degree first, of one degree that with more x, then with more y");
        InvariantWorks w = Checks.with(ONE3);
        Checks.polynomial(w, 0, "(x+y+z+1)^15");
        due("all of them", w.of(0, 1), 816);
        int i = 0;
        for (int degree = 15; degree >= 0; degree--) {
            for (int x = degree; x >= 0; x--) {
                for (int y = degree - x; y >= 0; y--) {
                    due("x of term " + i, w.term(0, i, 1), x);
                    due("y of term " + i, w.term(0, i, 2), y);
                    due("z of term " + i, w.term(0, i, 3), degree - x - y);
                    due("factor of term " + i, w.term(0, i, 0), w.factor(0, x, y, degree - x - y));
                    i++;
                }
            }
        }
        w = new InvariantWorks();
        Checks.polynomial(w, 0, "(x+y+1)^15");
        due("all of two", w.of(0, 1), 136);
        due("the first", w.term(0, 0, 1), 15);
        due("the last of degree 15", w.term(0, 15, 2), 15);
        due("the first of degree 14", w.term(0, 16, 1), 14);
        due("the last", w.term(0, 135, 0), 1);
    }

    private static void terms() {
        Checks.says("TERMS of a POLYNOMIAL: those MONOMIALS whose factors are not 0, in this order");
        InvariantWorks w = Checks.with(ONE3);
        Checks.polynomial(w, 0, "z^15+2521*x+y-y+2520+3*x^15");
        due("terms", w.of(0, 1), 3);
        Checks.due("terms", Checks.told(w, 0), "3x15+1z15+2520");
        Checks.polynomial(w, 0, "2521");
        due("no terms", w.of(0, 1), 0);
    }

    private static void zeroDegree() {
        Checks.says("0 has degree 0.");
        InvariantWorks w = new InvariantWorks();
        due("told", Checks.polynomial(w, 0, "x^15-x^15"), 0);
        due("degree", w.of(0, 0), 0);
        Checks.polynomial(w, 1, "5");
        due("degree of a number", w.of(1, 0), 0);
        Checks.polynomial(w, 1, "y^15");
        due("degree 15", w.of(1, 0), 15);
        due("0 times degree 15", w.product(0, 1, 2), 0);
        due("degree", w.of(2, 0), 0);
    }

    // ---- of()

    private static void leftAlone() {
        Checks.says("LEFT ALONE is what each MEMBER MOVES to itself");
        InvariantWorks w = Checks.with(ALL3);
        String[] alone = {"0", "2520", "x+y+z", "x*y*z", "x^15+y^15+z^15", "(x-y)^2*(y-z)^2*(z-x)^2", "x*y+y*z+z*x+9"};
        String[] not = {"x", "x+y", "z^15", "(x-y)*(y-z)*(z-x)", "x+y+z+x*y", "x^2*y+y^2*z+z^2*x", "x+y+2*z", "x+y"};
        for (String text : alone) {
            Checks.polynomial(w, 0, text);
            due(text, w.of(0, 2), 1);
        }
        for (String text : not) {
            Checks.polynomial(w, 0, text);
            due(text, w.of(0, 2), 0);
        }
        due("by none but member 0 all are", notAlone(), 1);
    }

    private static int notAlone() {
        InvariantWorks w = new InvariantWorks();
        Checks.polynomial(w, 0, "x^15+3*y");
        return w.of(0, 2);
    }

    private static void ofOneDegree() {
        Checks.says("3: 1 all TERMS are of one degree (0, too)");
        InvariantWorks w = new InvariantWorks();
        due("0", w.of(0, 3), 1);
        String[] one = {"5", "x", "x^15+y^15", "x*y+x^2", "x+1-1", "x^15+x-x"};
        String[] more = {"x+1", "x^15+1", "x^15+y^14", "x^2+x", "x*y+y"};
        for (String text : one) {
            Checks.polynomial(w, 1, text);
            due(text, w.of(1, 3), 1);
        }
        for (String text : more) {
            Checks.polynomial(w, 1, text);
            due(text, w.of(1, 3), 0);
        }
    }

    private static void ofUnlike() {
        Checks.says("4: how many unlike ones MEMBERS MOVE it to");
        InvariantWorks w = Checks.with(ALL3 + ";-1 0 0/0 1 0/0 0 1");
        due("0 to itself alone", w.of(0, 4), 1);
        String[] texts = {"7", "x^2+y^2+z^2", "x", "x^2", "x*y", "x+y+z", "x*y*z", "x+2*y+3*z", "x^15+2*y+3*z^3", "x+2*y"};
        int[] want = {1, 1, 6, 3, 6, 8, 2, 48, 48, 24};
        for (int i = 0; i < texts.length; i++) {
            Checks.polynomial(w, 1, texts[i]);
            due(texts[i], w.of(1, 4), want[i]);
        }
    }

    private static void ofOthers() {
        Checks.says("of: NONE: others, no such k");
        InvariantWorks w = holding(SWAP);
        for (int k : Checks.outside(5)) {
            for (int what = 0; what < 5; what++) {
                due("of(" + k + ", " + what + ")", w.of(k, what), -1);
            }
        }
        for (int what : Checks.outside(4)) {
            due("of(0, " + what + ")", w.of(0, what), -1);
            due("of(5, " + what + ")", w.of(5, what), -1);
        }
    }

    // ---- factor(), term()

    private static void factorEdges() {
        Checks.says("The factor of the MONOMIAL x to a, y to b, z to c (0 to 15 each; with D 2 c 0) in it");
        InvariantWorks w = Checks.with(ONE3);
        Checks.polynomial(w, 5, "2*x^15+3*y^15+4*z^15+5*x^5*y^5*z^5+6");
        due("x^15", w.factor(5, 15, 0, 0), 2);
        due("y^15", w.factor(5, 0, 15, 0), 3);
        due("z^15", w.factor(5, 0, 0, 15), 4);
        due("x^5y^5z^5", w.factor(5, 5, 5, 5), 5);
        due("1", w.factor(5, 0, 0, 0), 6);
        due("x^14y", w.factor(5, 14, 1, 0), 0);
        due("of degree 16 it has none", w.factor(5, 15, 1, 0), 0);
        due("of degree 16 it has none", w.factor(5, 0, 1, 15), 0);
        due("of degree 45 it has none", w.factor(5, 15, 15, 15), 0);
        w = new InvariantWorks();
        Checks.polynomial(w, 0, "2*x^15+3*y^15+6");
        due("with D 2 x^15", w.factor(0, 15, 0, 0), 2);
        due("with D 2 y^15", w.factor(0, 0, 15, 0), 3);
        due("with D 2 of degree 30 it has none", w.factor(0, 15, 15, 0), 0);
    }

    private static void factorOthers() {
        Checks.says("factor: NONE: others");
        InvariantWorks w = Checks.with(ONE3);
        for (int power : Checks.outside(15)) {
            due("a " + power, w.factor(0, power, 0, 0), -1);
            due("b " + power, w.factor(0, 0, power, 0), -1);
            due("c " + power, w.factor(0, 0, 0, power), -1);
            due("all " + power, w.factor(0, power, power, power), -1);
        }
        due("they don't make up for each other", w.factor(0, 16, -1, 0), -1);
        due("they don't make up for each other", w.factor(0, Integer.MIN_VALUE, Integer.MIN_VALUE, 0), -1);
        for (int k : Checks.outside(5)) {
            due("k " + k, w.factor(k, 0, 0, 0), -1);
        }
        w = new InvariantWorks();
        for (int c = 1; c < 17; c++) {
            due("with D 2 c " + c, w.factor(0, 0, 0, c), -1);
        }
        due("with D 2 c -1", w.factor(0, 0, 0, -1), -1);
    }

    private static void termWhat() {
        Checks.says("Of its i-th TERM, what 0: the factor, 1 to 3: powers of x, y, z");
        InvariantWorks w = Checks.with(ONE3);
        Checks.polynomial(w, 5, "2520*x^4*y^5*z^6+z-3");
        int[][] want = {{2520, 4, 5, 6}, {1, 0, 0, 1}, {2518, 0, 0, 0}};
        for (int i = 0; i < 3; i++) {
            for (int what = 0; what < 4; what++) {
                due("term(5, " + i + ", " + what + ")", w.term(5, i, what), want[i][what]);
            }
        }
        w = new InvariantWorks();
        Checks.polynomial(w, 0, "7*x^4*y^5");
        int[] two = {7, 4, 5, 0};
        for (int what = 0; what < 4; what++) {
            due("with D 2 term(0, 0, " + what + ")", w.term(0, 0, what), two[what]);
        }
    }

    private static void noTerm(InvariantWorks w, int k, int i, int what) {
        boolean thrown = false;
        try {
            w.term(k, i, what);
        } catch (NoSuchElementException none) {
            thrown = true;
        }
        Checks.holds("term(" + k + ", " + i + ", " + what + ") throws", thrown);
    }

    private static void termOthers() {
        Checks.says("NoSuchElementException: others, none such");
        InvariantWorks w = holding(SWAP);
        String before = Checks.state(w);
        due("the last one", w.term(0, 1, 0), 1);
        for (int i : Checks.outside(1)) {
            noTerm(w, 0, i, 0);
            noTerm(w, 0, i, 3);
        }
        for (int what : Checks.outside(3)) {
            noTerm(w, 0, 0, what);
        }
        for (int k : Checks.outside(5)) {
            noTerm(w, k, 0, 0);
        }
        Checks.due("nothing happens", Checks.state(w), before);
        Checks.polynomial(w, 0, "0");
        noTerm(w, 0, 0, 0);
        Checks.polynomial(w, 0, "(x+y+1)^15");
        due("the last of 136", w.term(0, 135, 0), 1);
        noTerm(w, 0, 136, 0);
        w = Checks.with(ONE3);
        Checks.polynomial(w, 0, "(x+y+z+1)^15");
        due("the last of 816", w.term(0, 815, 0), 1);
        noTerm(w, 0, 816, 0);
    }

    // ---- moved(), average(), plus(), product()

    private static void moved() {
        Checks.says("The one kept as k, MOVED by a MEMBER, is kept as to: TERMS");
        InvariantWorks w = Checks.with("0 1/-1 0");
        Checks.polynomial(w, 0, "x^15+2*y+3");
        due("by the last member", w.moved(0, w.group(0) - 1, 5), 3);
        due("by member 0", w.moved(0, 0, 4), 3);
        Checks.due("member 0 changes nothing", Checks.told(w, 4), "1x15+2y1+3");
        due("by member 1", w.moved(0, 1, 1), 3);
        Checks.due("by member 1", Checks.told(w, 1), "1y15+2519x1+3");
        due("in its own place", w.moved(5, 1, 5), 3);
        Checks.due("in its own place, back again", Checks.told(w, 5), "1x15+2y1+3");
        due("0", w.moved(2, 1, 1), 0);
        Checks.due("0", Checks.told(w, 1), "");
        w = Checks.with("1 0/1 -1");
        Checks.polynomial(w, 0, "y^15");
        due("a sum for a variable", w.moved(0, 1, 0), 16);
        due("its factor of x^8y^7", w.factor(0, 8, 7, 0), 2521 - 6435 % 2521);
        due("back again", w.moved(0, 1, 0), 1);
        Checks.due("back again", Checks.told(w, 0), "1y15");
    }

    private static void movedOthers() {
        Checks.says("moved: NONE, and nothing happens: others");
        InvariantWorks w = holding(SWAP);
        String before = Checks.state(w);
        for (int k : Checks.outside(5)) {
            due("moved(" + k + ", 1, 0)", w.moved(k, 1, 0), -1);
            due("moved(0, 1, " + k + ")", w.moved(0, 1, k), -1);
        }
        for (int g : Checks.outside(1)) {
            due("moved(0, " + g + ", 1)", w.moved(0, g, 1), -1);
        }
        Checks.due("nothing happens", Checks.state(w), before);
    }

    private static void average() {
        Checks.says("to divide by one (not 0) is to multiply by that which with it gives 1");
        int[] orders = {2, 3, 4, 5, 6, 7, 8, 9, 10, 12, 14, 15, 18, 20, 21, 24, 28, 30, 35, 36, 40, 42, 45};
        for (int n : orders) {
            // y becomes a sum of both: all together y falls away and some of x is left
            InvariantWorks w = Checks.with("1 0/1 " + Groups.root(n));
            due("members", w.group(0), n);
            Checks.polynomial(w, 0, "y*" + n);
            due("average", w.average(0, 1), 1);
            int sum = 0;
            for (int g = 0; g < n; g++) {
                w.moved(0, g, 2);
                sum = (sum + w.factor(2, 1, 0, 0)) % 2521;
            }
            due("by " + n, w.factor(1, 1, 0, 0) * n % 2521, sum);
            due("y is gone", w.factor(1, 0, 1, 0), 0);
        }
    }

    private static void averageOthers() {
        Checks.says("AVERAGE of the one kept as k is kept as to: TERMS; NONE, and nothing happens: others");
        InvariantWorks w = holding(SWAP);
        String before = Checks.state(w);
        for (int k : Checks.outside(5)) {
            due("average(" + k + ", 0)", w.average(k, 0), -1);
            due("average(0, " + k + ")", w.average(0, k), -1);
        }
        Checks.due("nothing happens", Checks.state(w), before);
        due("of 5 to 0", w.average(5, 0), 3);
        Checks.due("of 5 to 0", Checks.told(w, 0), "1261x6+1261y6+6x1y1");
        due("in its own place", w.average(5, 5), 3);
        Checks.polynomial(w, 1, "2520");
        due("of a number", w.average(1, 1), 1);
        Checks.due("of a number", Checks.told(w, 1), "2520");
        Checks.polynomial(w, 1, "x-y");
        due("nothing is left", w.average(1, 1), 0);
        due("of 0", w.average(1, 1), 0);
        w = new InvariantWorks();
        Checks.polynomial(w, 0, "x^15+9");
        due("of one member", w.average(0, 1), 2);
        Checks.due("of one member", Checks.told(w, 1), "1x15+9");
    }

    private static void plus() {
        Checks.says("The one kept as a and f times the one kept as b, together, are kept as to: TERMS");
        InvariantWorks w = new InvariantWorks();
        Checks.polynomial(w, 0, "2520*x^15+y");
        Checks.polynomial(w, 1, "2520*x^15+2*y+1");
        int[] factors = {0, 1, -1, 2520, 2521, 2522, -2520, -2521, 2521 * 1000, Integer.MAX_VALUE, Integer.MIN_VALUE, Integer.MIN_VALUE + 1};
        for (int f : factors) {
            int left = Math.floorMod(f, 2521);
            w.plus(0, 1, f, 5);
            due("x^15 with f " + f, w.factor(5, 15, 0, 0), (2520 + left * 2520) % 2521);
            due("y with f " + f, w.factor(5, 0, 1, 0), (1 + left * 2) % 2521);
            due("1 with f " + f, w.factor(5, 0, 0, 0), left);
        }
        due("terms that fall away", w.plus(0, 0, -1, 4), 0);
        due("f 0", w.plus(0, 1, 0, 4), 2);
        due("all three the same", w.plus(0, 0, 1, 0), 2);
        Checks.due("all three the same", Checks.told(w, 0), "2519x15+2y1");
        due("to is b", w.plus(0, 1, 1, 1), 3);
        Checks.due("to is b", Checks.told(w, 1), "2518x15+4y1+1");
    }

    private static void plusOthers() {
        Checks.says("plus: NONE, and nothing happens: others");
        InvariantWorks w = holding(SWAP);
        String before = Checks.state(w);
        for (int k : Checks.outside(5)) {
            due("plus(" + k + ", 0, 1, 0)", w.plus(k, 0, 1, 0), -1);
            due("plus(0, " + k + ", 1, 0)", w.plus(0, k, 1, 0), -1);
            due("plus(0, 0, 1, " + k + ")", w.plus(0, 0, 1, k), -1);
        }
        Checks.due("nothing happens", Checks.state(w), before);
    }

    private static void product() {
        Checks.says("The product of both is kept as to: TERMS");
        InvariantWorks w = new InvariantWorks();
        Checks.polynomial(w, 0, "(2520*x+2520*y+2520)^7");
        Checks.polynomial(w, 1, "(2520*x+2520*y+2520)^8");
        due("of degree 15", w.product(0, 1, 5), 136);
        Checks.polynomial(w, 2, "(2520*x+2520*y+2520)^15");
        due("each factor", w.plus(5, 2, -1, 4), 0);
        due("with 0", w.product(3, 2, 4), 0);
        due("0 with it", w.product(2, 3, 4), 0);
        Checks.polynomial(w, 3, "2520");
        due("with a number", w.product(2, 3, 4), 136);
        due("with a number", w.plus(4, 2, 1, 4), 0);
        Checks.polynomial(w, 0, "x+y");
        due("all three the same", w.product(0, 0, 0), 3);
        Checks.due("all three the same", Checks.told(w, 0), "1x2+2x1y1+1y2");
        w = Checks.with(ONE3);
        Checks.polynomial(w, 0, "(2520*x+2520*y+2520*z+2520)^7");
        Checks.polynomial(w, 1, "(2520*x+2520*y+2520*z+2520)^8");
        due("of degree 15 with D 3", w.product(0, 1, 0), 816);
        Checks.polynomial(w, 1, "(2520*x+2520*y+2520*z+2520)^15");
        due("each factor with D 3", w.plus(0, 1, -1, 4), 0);
    }

    private static void productOthers() {
        Checks.says("product: NONE, and nothing happens: others");
        InvariantWorks w = holding(SWAP);
        Checks.polynomial(w, 4, "x^15");
        String before = Checks.state(w);
        for (int k : Checks.outside(5)) {
            due("product(" + k + ", 0, 0)", w.product(k, 0, 0), -1);
            due("product(0, " + k + ", 0)", w.product(0, k, 0), -1);
            due("product(0, 0, " + k + ")", w.product(0, 0, k), -1);
            due("not -2: product(4, 4, " + k + ")", w.product(4, 4, k), -1);
        }
        Checks.due("nothing happens", Checks.state(w), before);
    }

    private static void productTooHigh() {
        Checks.says("else -2 likewise: it is of a degree above 15");
        InvariantWorks w = new InvariantWorks();
        for (int degree = 0; degree <= 15; degree++) {
            Checks.polynomial(w, 0, "x^" + degree + "+1");
            Checks.polynomial(w, 1, "y^" + (15 - degree) + "+1");
            Checks.polynomial(w, 2, "y^" + Math.min(15, 16 - degree) + "+1");
            due("of degree 15", w.product(0, 1, 3) > 0 ? w.of(3, 0) : -1, 15);
            String before = Checks.state(w);
            due("of degree 16", w.product(0, 2, 3), degree == 0 ? 2 : -2);
            if (degree > 0) {
                Checks.due("nothing happens", Checks.state(w), before);
                due("of degree 16, the other way", w.product(2, 0, 0), -2);
                Checks.due("nothing happens", Checks.state(w), before);
            }
        }
        Checks.polynomial(w, 0, "x^15");
        due("of degree 30", w.product(0, 0, 0), -2);
        Checks.due("nothing happens", Checks.told(w, 0), "1x15");
    }
}
