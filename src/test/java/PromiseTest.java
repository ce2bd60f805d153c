import java.util.NoSuchElementException;

/** Each promise of the document: ordinary inputs, the edges that it names, wrong inputs. */
public final class PromiseTest {
    private static final String SWAP = "0 1/1 0";
    private static final String TURN3 = "0 1 0/0 0 1/1 0 0";
    private static final String ALL3 = "0 1 0/0 0 1/1 0 0; 0 1 0/1 0 0/0 0 1";
    private static final String MINUS3 = "-1 0 0/0 -1 0/0 0 -1";

    private PromiseTest() {
    }

    public static void main(String[] args) {
        newObject();
        feed();
        tables();
        tableFaults();
        polynomial();
        polynomialFaults();
        degreesTooHigh();
        group();
        member();
        times();
        about();
        of();
        factor();
        term();
        moved();
        average();
        plus();
        product();
        series();
        base();
        isSystem();
        primary();
        secondaries();
        numerator();
        rewrite();
        rewritten();
        relation();
        count();
        Checks.end();
    }

    private static void due(String call, long got, long want) {
        Checks.due(call, got, want);
    }

    private static InvariantWorks with(String tables) {
        InvariantWorks w = new InvariantWorks();
        Checks.tables(w, tables);
        return w;
    }

    private static void told(String call, InvariantWorks w, int k, String want) {
        String got = Checks.told(w, k);
        if (!got.equals(want)) {
            System.out.println(call + ": " + got + " is not " + want);
        }
        Checks.holds(call, got.equals(want));
    }

    private static void newObject() {
        InvariantWorks w = new InvariantWorks();
        due("1 members", w.group(0), 1);
        due("1 D", w.group(1), 2);
        due("1 tables", w.group(2), 0);
        due("1 lots", w.group(3), 1);
        due("1 power", w.group(4), 1);
        due("1 either order", w.group(5), 1);
        for (int i = 0; i < 4; i++) {
            due("1 member", w.member(0, i / 2, i % 2), i == 0 || i == 3 ? 1 : 0);
        }
        due("1 rewritten", w.count(1), -1);
        due("1 rewritten", w.rewritten(0, 0, 0, 0), -1);
        due("1 tape", w.count(0), 0);
        for (int k = 0; k < 6; k++) {
            due("1 kept", w.of(k, 1), 0);
        }
        due("1 constant", InvariantWorks.NONE, -1);
    }

    private static void feed() {
        InvariantWorks w = new InvariantWorks();
        for (int i = 1; i <= 20; i++) {
            due("2 feed", w.feed(0x78202020, 0x20202020, 0x20202020, 0x20202020, 0x20202020), 20 * i);
        }
        due("2 feed a full tape", w.feed(0, 0, 0, 0, 0), -1);
        due("2 none came", w.count(0), 400);
        due("2 first byte is the highest", w.polynomial(0, 1), 1);
        due("2 empty then", w.count(0), 0);
        // 1*2*3*4*5*6*7*8*9*x: all twenty bytes, in their order
        due("2 feed", w.feed(0x312A322A, 0x332A342A, 0x352A362A, 0x372A382A, 0x392A7820), 20);
        due("2 order of bytes", w.polynomial(0, 20), 1);
        due("2 order of bytes", w.factor(0, 1, 0, 0), 362880 % 2521);
        w.feed(0x2D2D2D2D, 0, -1, 0x80808080, 0xFF00FF00);
        due("2 any byte", w.count(0), 20);
    }

    private static void tables() {
        InvariantWorks w = new InvariantWorks();
        due("3 swap", Checks.tables(w, SWAP), 2);
        due("3 blanks", Checks.tables(w, " \n0\n1 / 1 0 \n"), 2);
        due("3 - parts numbers", Checks.tables(w, "0-1/-1-0"), 2);
        due("3 - apart from its digits", Checks.tables(w, "- 1 0/0 -\n1"), 2);
        due("3 numbers of four digits", Checks.tables(w, "2520 0000/2521 5041"), 2);
        due("3 what 2521 leaves", w.member(1, 1, 1), 2520);
        due("3 below 0", Checks.tables(w, "-9999 0/0 1"), fromOrder(Math.floorMod(-9999, 2521)));
        due("3 three variables", Checks.tables(w, TURN3), 3);
        due("3 four tables", Checks.tables(w, "1 0/0 1;-1 0/0 1;1 0/0 -1;0 1/1 0"), 8);
        due("3 in the order they come", w.member(1, 0, 0), 2520);
        due("3 in the order they come", w.member(2, 1, 1), 2520);
        due("3 in the order they come", w.member(3, 0, 1), 1);
        due("3 48 members", Checks.tables(w, "0 1 0/0 0 1/1 0 0;0 1 0/1 0 0/0 0 1;-1 0 0/0 1 0/0 0 1"), 48);
        due("3 none below 0", w.tables(-1), -1);
        w.feed(0x30203120, 0x2F312030, 0x20202020, 0x20202020, 0x20202020);
        due("3 none beyond the tape", w.tables(21), -1);
        due("3 the tape stays", w.count(0), 20);
        due("3 still 48", w.group(0), 48);
        due("3 the whole tape", w.tables(20), 2);
        due("3 the tape is empty", w.count(0), 0);
        keptThroughTables();
    }

    private static int fromOrder(int number) {
        int order = 1;
        for (long p = number; p != 1 && order < 49; order++) {
            p = p * number % 2521;
        }
        return order > 48 ? -6 : order;
    }

    private static void keptThroughTables() {
        InvariantWorks w = with(SWAP);
        Checks.polynomial(w, 3, "x*y");
        due("3 rewrite", w.rewrite(3), 2);
        due("3 a fault leaves what is rewritten", Checks.tables(w, "1 0/0 0"), -5);
        due("3 a fault leaves what is rewritten", w.count(1), 2);
        due("3 a fault leaves the group", w.group(0), 2);
        due("3 a fault leaves the tables", w.group(2), 1);
        due("3 a fault empties the tape", w.count(0), 0);
        due("3 too many leave the group", Checks.tables(w, "1 0/0 1;1 1/0 1"), -6);
        due("3 too many leave the group", w.group(0), 2);
        due("3 too many leave the group", w.times(1, 1), 0);
        due("3 new tables", Checks.tables(w, SWAP), 2);
        due("3 new tables: nothing is rewritten", w.count(1), -1);
        due("3 new tables: nothing is rewritten", w.rewritten(0, 0, 0, 0), -1);
        told("3 same D: kept stay", w, 3, "1x1y1");
        due("3 a fault with another D", Checks.tables(w, "1 0 0/0 1 0/0 0 0"), -5);
        told("3 a fault with another D: kept stay", w, 3, "1x1y1");
        due("3 another D", Checks.tables(w, TURN3), 3);
        told("3 another D: kept are 0", w, 3, "");
        Checks.polynomial(w, 3, "x*z");
        due("3 another D back", Checks.tables(w, SWAP), 2);
        told("3 another D: kept are 0", w, 3, "");
        due("3 none is left of the old one", w.base(2, 0, 0), 2);
    }

    private static void tableFault(String text, int place, int kind) {
        InvariantWorks w = with(SWAP);
        due("3 tables \"" + text + "\"", Checks.tables(w, text), Checks.fault(place, kind));
        due("3 all else stays", w.group(0), 2);
        due("3 the tape is empty", w.count(0), 0);
    }

    private static void tableFaults() {
        tableFault("", 0, 1);
        tableFault("  ", 2, 1);
        tableFault("1", 1, 1);
        tableFault("1 /", 2, 1);
        tableFault("1 0", 3, 1);
        tableFault("1 0 ", 4, 1);
        tableFault("1 0;", 3, 1);
        tableFault("1 0/", 4, 1);
        tableFault("1 0/0", 5, 1);
        tableFault("1 0/0/", 5, 1);
        tableFault("1 0/0 1/", 7, 1);
        tableFault("1 0/0 1 1", 8, 1);
        tableFault("1 0/0 1-1", 7, 1);
        tableFault("1 0/0 1;", 8, 1);
        tableFault("1 0/0 1;;", 8, 1);
        tableFault("1 0/0 1;1 0 0/", 12, 1);
        tableFault("1 0 0 0", 6, 1);
        tableFault("1 0 0/0 1", 9, 1);
        tableFault("1 0 0/0 1/", 9, 1);
        tableFault("1 0 0/0 1 0", 11, 1);
        tableFault("1 0 0/0 1 0;", 11, 1);
        tableFault("1 0 0/0 1 0/0 0 1/", 17, 1);
        tableFault("--1 0/0 1", 1, 1);
        tableFault("1 -/0 1", 3, 1);
        tableFault("1 0 -/0 1", 5, 1);
        tableFault("+1 0/0 1", 0, 1);
        tableFault("1 12345/0 1", 2, 1);
        tableFault("1 -12345/0 1", 3, 1);
        tableFault("1 0/00000 1", 4, 1);
        tableFault("1 0/0 x", 6, 1);
        tableFault("1 0/0 1\t", 7, 1);
        tableFault("\u00001 0/0 1", 0, 1);
        tableFault("1 0/0 1\u00ff", 7, 1);
        tableFault("1 0/0 1(", 7, 1);
        String one = "1 0/0 1";
        String four = one + ";" + one + ";" + one + ";" + one;
        tableFault(four + ";" + one, 31, 2);
        tableFault(four + " ;", 32, 2);
        tableFault(four + " 1;", 32, 1);
        tableFault(four + "/", 31, 1);
        tableFault("0 0/0 0;" + one + ";x", 16, 1);
        tableFault("1 0/0 0", 0, 3);
        tableFault(" \n2521 0/0 1", 2, 3);
        tableFault("1 0/0 1;-1 1/1 -1;0 0/0 0", 8, 3);
        tableFault("1 1/0 1; 1 1/1 1", 9, 3);
        tableFault("1 1 1/1 2 3/2 3 4", 0, 3);
        tableFault("1 1/0 1", 0, 4);
        tableFault("1 0 0/0 1 0/0 0 2", 0, 4);
        tableFault("0 1 0/0 0 1/1 0 0;0 1 0/1 0 0/0 0 1;-1 0 0/0 1 0/0 0 1; 1 0 0/0 1 0/0 0 " + Groups.root(4), 0, 4);
        StringBuilder full = new StringBuilder("1 0/0 1");
        while (full.length() < 400) {
            full.append(' ');
        }
        due("3 a full tape", Checks.tables(new InvariantWorks(), full.toString()), 1);
        tableFault(full.substring(0, 399) + "/", 399, 1);
        tableFault("1 0/0" + full.substring(5, 6) + full.substring(7, 400), 399, 1);
    }

    private static void polynomial() {
        InvariantWorks w = new InvariantWorks();
        due("4 sum", Checks.polynomial(w, 0, "-x^2*3 + y - 4*x*y*2 + 2521 + 7"), 2);
        told("4 sum", w, 0, "2518x2+2513x1y1+1y1+7");
        due("4 brackets", Checks.polynomial(w, 1, "(x+y)^3-(x-y)^3"), 3);
        told("4 brackets", w, 1, "6x2y1+2y3");
        due("4 a number", Checks.polynomial(w, 2, "9999"), 0);
        told("4 a number", w, 2, "2436");
        due("4 0", Checks.polynomial(w, 2, "x-x"), 0);
        told("4 0", w, 2, "");
        due("4 power 0", Checks.polynomial(w, 2, "(x-x)^0+0^00"), 0);
        told("4 power 0", w, 2, "2");
        due("4 0 to a power", Checks.polynomial(w, 2, "0^5+x^01"), 1);
        due("4 degree 15", Checks.polynomial(w, 2, "(x+1)^15"), 15);
        due("4 degree 15", w.factor(2, 7, 0, 0), 6435 % 2521);
        due("4 eight brackets", Checks.polynomial(w, 2, "((((((((x))))))))+(((((((y))))))*2)"), 1);
        told("4 eight brackets", w, 2, "1x1+2y1");
        due("4 - ahead in brackets", Checks.polynomial(w, 2, "(-x+(-y))*(-1+0)"), 1);
        told("4 - ahead in brackets", w, 2, "1x1+1y1");
        due("4 - ahead of a product", Checks.polynomial(w, 2, "-x*y^2*(x+1)"), 4);
        told("4 - ahead of a product", w, 2, "2520x2y2+2520x1y2");
        due("4 blanks", Checks.polynomial(w, 2, "\n x ^ 2 * y\n+ 1 "), 3);
        told("4 others stay", w, 1, "6x2y1+2y3");
        due("4 no such k", w.polynomial(-1, 0), -1);
        due("4 no such k", w.polynomial(6, 0), -1);
        w.feed(0x78202020, 0, 0, 0, 0);
        due("4 n below 0", w.polynomial(0, -1), -1);
        due("4 not so many", w.polynomial(0, 21), -1);
        due("4 no such k", w.polynomial(6, 1), -1);
        due("4 the tape stays", w.count(0), 20);
        due("4 the first n bytes", w.polynomial(0, 1), 1);
        due("4 the tape is empty", w.count(0), 0);
        due("4 z", Checks.polynomial(with(TURN3), 0, "(x+y+z)^2*z^13"), 15);
        due("4 what is rewritten stays", rewrittenThenTold(), 2);
    }

    private static int rewrittenThenTold() {
        InvariantWorks w = with(SWAP);
        Checks.polynomial(w, 3, "x*y");
        w.rewrite(3);
        Checks.polynomial(w, 3, "x");
        return w.count(1);
    }

    private static void polynomialFault(String text, int place, int kind) {
        InvariantWorks w = new InvariantWorks();
        Checks.polynomial(w, 2, "x+y");
        due("4 polynomial \"" + text + "\"", Checks.polynomial(w, 2, text), Checks.fault(place, kind));
        told("4 all else stays", w, 2, "1x1+1y1");
        due("4 the tape is empty", w.count(0), 0);
    }

    private static void polynomialFaults() {
        polynomialFault("", 0, 1);
        polynomialFault("   ", 3, 1);
        polynomialFault("z", 0, 1);
        polynomialFault("x+z", 2, 1);
        polynomialFault("x y", 2, 1);
        polynomialFault("2x", 1, 1);
        polynomialFault("x2", 1, 1);
        polynomialFault("1 2", 2, 1);
        polynomialFault("+x", 0, 1);
        polynomialFault("--x", 1, 1);
        polynomialFault("x+-y", 2, 1);
        polynomialFault("x*-y", 2, 1);
        polynomialFault("x*", 2, 1);
        polynomialFault("x+ ", 3, 1);
        polynomialFault("-", 1, 1);
        polynomialFault("*x", 0, 1);
        polynomialFault("x^", 2, 1);
        polynomialFault("x^y", 2, 1);
        polynomialFault("x^-1", 2, 1);
        polynomialFault("x^(2)", 2, 1);
        polynomialFault("x^2^2", 3, 1);
        polynomialFault("x^2 2", 4, 1);
        polynomialFault("x^123", 2, 1);
        polynomialFault("x^001", 2, 1);
        polynomialFault("x^16", 2, 2);
        polynomialFault("x^ 99", 3, 2);
        polynomialFault("x^16?", 2, 2);
        polynomialFault("?x^16", 0, 1);
        polynomialFault("12345", 0, 1);
        polynomialFault("x+00001", 2, 1);
        polynomialFault("()", 1, 1);
        polynomialFault("(x", 2, 1);
        polynomialFault("(x ", 3, 1);
        polynomialFault("x)", 1, 1);
        polynomialFault("(x))", 3, 1);
        polynomialFault("x(y)", 1, 1);
        polynomialFault("(x)(y)", 3, 1);
        polynomialFault("x/2", 1, 1);
        polynomialFault("x;", 1, 1);
        polynomialFault("X", 0, 1);
        polynomialFault("x\t", 1, 1);
        polynomialFault("x+\u00e9", 2, 1);
        polynomialFault("(((((((((x)))))))))", 8, 2);
        polynomialFault("x+ (((((((( (", 12, 2);
        polynomialFault("((((((((x(", 9, 1);
        polynomialFault("((((((((x)+((", 12, 2);
    }

    private static void degreesTooHigh() {
        polynomialFault("x^15*x", 0, 3);
        polynomialFault("x^8*y^8*0", 0, 3);
        polynomialFault("(x*y)^8", 0, 3);
        polynomialFault("(x^2)^8-(x^2)^8", 0, 3);
        polynomialFault("  (x^15*y)^0", 0, 3);
        polynomialFault("1+x*(y^14*(x+1)+1)*x", 0, 3);
        polynomialFault("x^15*x+?", 7, 1);
        polynomialFault("x^15*x+y^16", 9, 2);
        InvariantWorks w = new InvariantWorks();
        due("4 0 ahead", Checks.polynomial(w, 0, "0*x^15*x^15"), 0);
        due("4 2521 ahead", Checks.polynomial(w, 0, "2521*x^15*x^15+y"), 1);
        due("4 0 between", Checks.polynomial(w, 0, "x^15*(x-x)*y^15"), 0);
        due("4 0 to a power", Checks.polynomial(w, 0, "(x^15-x^15)^15*x^15+x"), 1);
        due("4 power 0", Checks.polynomial(w, 0, "(x^15)^0*y^15"), 15);
        due("4 degree falls", Checks.polynomial(w, 0, "(x^15+x-x^15)^15"), 15);
        due("4 just 15", Checks.polynomial(w, 0, "(x^3)^5+(x^5*y^5)*(x^5+y^5)"), 15);
    }

    private static void group() {
        InvariantWorks w = with(ALL3);
        int[] all3 = {6, 3, 2, 3, 6, 0};
        for (int what = 0; what < 6; what++) {
            due("5 all orders of three", w.group(what), all3[what]);
        }
        due("5 others", w.group(-1), -1);
        due("5 others", w.group(6), -1);
        due("5 others", w.group(Integer.MIN_VALUE), -1);
        w = with("0 1/-1 0");
        int[] turn = {4, 2, 1, 4, 4, 1};
        for (int what = 0; what < 6; what++) {
            due("5 a quarter turn", w.group(what), turn[what]);
        }
        w = with("-1 0/0 1; 1 0/0 -1; 1 0/0 1");
        int[] four = {4, 2, 3, 4, 2, 1};
        for (int what = 0; what < 6; what++) {
            due("5 signs", w.group(what), four[what]);
        }
        w = with("0 1/-1 0;0 1/1 0");
        int[] square = {8, 2, 2, 5, 4, 0};
        for (int what = 0; what < 6; what++) {
            due("5 of a square", w.group(what), square[what]);
        }
        w = with("1 0/0 1;1 0/0 1");
        due("5 tables told, alike ones too", w.group(2), 2);
        due("5 one member", w.group(0), 1);
    }

    private static void member() {
        InvariantWorks w = with(TURN3);
        int[] turn = {0, 1, 0, 0, 0, 1, 1, 0, 0};
        for (int i = 0; i < 9; i++) {
            due("6 the first one", w.member(0, i / 3, i % 3), i % 4 == 0 ? 1 : 0);
            due("6 the table told", w.member(1, i / 3, i % 3), turn[i]);
        }
        due("6 its square", w.member(2, 0, 2), 1);
        due("6 none such", w.member(3, 0, 0), -1);
        due("6 none such", w.member(-1, 0, 0), -1);
        due("6 others", w.member(0, 3, 0), -1);
        due("6 others", w.member(0, 0, 3), -1);
        due("6 others", w.member(0, -1, 0), -1);
        due("6 others", w.member(0, 0, -1), -1);
        due("6 others with D 2", with(SWAP).member(0, 0, 2), -1);
    }

    private static void times() {
        InvariantWorks w = with(ALL3);
        // 1 the turn, 2 the swap, 3 turn turn, 4 turn swap, 5 swap turn
        due("7 turn turn", w.times(1, 1), 3);
        due("7 turn swap", w.times(1, 2), 4);
        due("7 swap turn", w.times(2, 1), 5);
        due("7 turn thrice", w.times(3, 1), 0);
        due("7 with the first one", w.times(0, 5), 5);
        due("7 none such", w.times(6, 0), -1);
        due("7 none such", w.times(0, 6), -1);
        due("7 none such", w.times(-1, 0), -1);
        due("7 none such", w.times(0, Integer.MIN_VALUE), -1);
    }

    private static void about() {
        InvariantWorks w = with(ALL3);
        int[] inverses = {0, 3, 2, 1, 4, 5};
        int[] orders = {1, 3, 2, 3, 2, 2};
        for (int g = 0; g < 6; g++) {
            due("8 inverse", w.about(g, 0), inverses[g]);
            due("8 order", w.about(g, 1), orders[g]);
            due("8 determinant", w.about(g, 2), orders[g] == 2 ? 2520 : 1);
            due("8 trace", w.about(g, 3), g == 0 ? 3 : orders[g] == 2 ? 1 : 0);
        }
        due("8 others", w.about(0, 4), -1);
        due("8 others", w.about(0, -1), -1);
        due("8 none such", w.about(6, 0), -1);
        due("8 none such", w.about(-1, 0), -1);
        due("8 trace below 0", with("-1 0/0 -1").about(1, 3), 2519);
    }

    private static void of() {
        InvariantWorks w = with(SWAP);
        due("9 0", w.of(0, 0), 0);
        due("9 0", w.of(0, 2), 1);
        due("9 0", w.of(0, 3), 1);
        due("9 0", w.of(0, 4), 1);
        Checks.polynomial(w, 1, "x^2*y+x*y^2+x*y");
        due("9 degree", w.of(1, 0), 3);
        due("9 terms", w.of(1, 1), 3);
        due("9 left alone", w.of(1, 2), 1);
        due("9 one degree", w.of(1, 3), 0);
        due("9 unlike ones", w.of(1, 4), 1);
        Checks.polynomial(w, 1, "x-y");
        due("9 left alone", w.of(1, 2), 0);
        due("9 one degree", w.of(1, 3), 1);
        due("9 unlike ones", w.of(1, 4), 2);
        Checks.polynomial(w, 1, "7");
        due("9 a number", w.of(1, 0), 0);
        due("9 a number", w.of(1, 3), 1);
        due("9 others", w.of(1, 5), -1);
        due("9 others", w.of(1, -1), -1);
        due("9 no such k", w.of(6, 0), -1);
        due("9 no such k", w.of(-1, 0), -1);
        w = with(ALL3);
        Checks.polynomial(w, 0, "x^2*y");
        due("9 six unlike ones", w.of(0, 4), 6);
        Checks.polynomial(w, 0, "x*y+1");
        due("9 three unlike ones", w.of(0, 4), 3);
        Checks.polynomial(w, 0, "(x-y)*(y-z)*(z-x)");
        due("9 two unlike ones", w.of(0, 4), 2);
        due("9 left alone by the first table alone", w.of(0, 2), 0);
    }

    private static void factor() {
        InvariantWorks w = new InvariantWorks();
        Checks.polynomial(w, 4, "5*x^2*y-y^15+3");
        due("10 factor", w.factor(4, 2, 1, 0), 5);
        due("10 factor", w.factor(4, 0, 15, 0), 2520);
        due("10 factor", w.factor(4, 0, 0, 0), 3);
        due("10 0", w.factor(4, 1, 2, 0), 0);
        due("10 above degree 15", w.factor(4, 15, 15, 0), 0);
        due("10 above degree 15", w.factor(4, 1, 15, 0), 0);
        due("10 with D 2 c 0", w.factor(4, 2, 1, 1), -1);
        due("10 others", w.factor(4, 16, 0, 0), -1);
        due("10 others", w.factor(4, 0, 16, 0), -1);
        due("10 others", w.factor(4, -1, 0, 0), -1);
        due("10 others", w.factor(4, 0, -1, 0), -1);
        due("10 others", w.factor(4, 0, 0, -1), -1);
        due("10 others", w.factor(6, 0, 0, 0), -1);
        due("10 others", w.factor(-1, 0, 0, 0), -1);
        due("10 others", w.factor(0, Integer.MAX_VALUE, 1, 0), -1);
        w = with(TURN3);
        Checks.polynomial(w, 4, "5*x^2*y*z^12+z^15+7*y^3*z^4");
        due("10 factor", w.factor(4, 2, 1, 12), 5);
        due("10 factor", w.factor(4, 0, 0, 15), 1);
        due("10 factor", w.factor(4, 0, 3, 4), 7);
        due("10 factor", w.factor(4, 0, 4, 3), 0);
        due("10 above degree 15", w.factor(4, 15, 15, 15), 0);
        due("10 others", w.factor(4, 0, 0, 16), -1);
    }

    private static void noTerm(InvariantWorks w, int k, int i, int what) {
        boolean thrown = false;
        try {
            w.term(k, i, what);
        } catch (NoSuchElementException none) {
            thrown = true;
        }
        Checks.holds("11 term(" + k + ", " + i + ", " + what + ") throws", thrown);
    }

    private static void term() {
        InvariantWorks w = with(TURN3);
        Checks.polynomial(w, 1, "1+z+2*y+3*x+4*z^2+5*y*z+6*y^2+7*x*z+8*x*y+9*x^2+10*z^3");
        told("11 the order of monomials", w, 1, "10z3+9x2+8x1y1+7x1z1+6y2+5y1z1+4z2+3x1+2y1+1z1+1");
        due("11 factor", w.term(1, 0, 0), 10);
        due("11 powers", w.term(1, 0, 1), 0);
        due("11 powers", w.term(1, 0, 3), 3);
        due("11 the last one", w.term(1, 10, 0), 1);
        noTerm(w, 1, 11, 0);
        noTerm(w, 1, -1, 0);
        noTerm(w, 1, 0, 4);
        noTerm(w, 1, 0, -1);
        noTerm(w, 6, 0, 0);
        noTerm(w, -1, 0, 0);
        noTerm(w, 0, 0, 0);
        noTerm(w, 1, Integer.MAX_VALUE, 0);
        w = new InvariantWorks();
        Checks.polynomial(w, 0, "x*y^2+x^2*y");
        due("11 more x first", w.term(0, 0, 1), 2);
        due("11 with D 2 z has no power", w.term(0, 0, 3), 0);
    }

    private static void moved() {
        InvariantWorks w = with("0 1/-1 0");
        Checks.polynomial(w, 0, "x^2*y+3*x+1");
        due("12 terms", w.moved(0, 1, 1), 3);
        told("12 y for x, -x for y", w, 1, "2520x1y2+3y1+1");
        told("12 the other stays", w, 0, "1x2y1+3x1+1");
        due("12 by the first one", w.moved(0, 0, 2), 3);
        told("12 by the first one", w, 2, "1x2y1+3x1+1");
        due("12 in its own place", w.moved(0, 1, 0), 3);
        told("12 in its own place", w, 0, "2520x1y2+3y1+1");
        due("12 others", w.moved(6, 0, 0), -1);
        due("12 others", w.moved(0, 4, 1), -1);
        due("12 others", w.moved(0, -1, 1), -1);
        due("12 others", w.moved(0, 0, 6), -1);
        due("12 others", w.moved(0, 0, -1), -1);
        told("12 nothing happens", w, 1, "2520x1y2+3y1+1");
        w = with("0 -1/1 -1");
        Checks.polynomial(w, 0, "y^2");
        due("12 a sum for a variable", w.moved(0, 1, 0), 3);
        told("12 a sum for a variable", w, 0, "1x2+2519x1y1+1y2");
        w = with("1 0 0/0 0 -1/0 1 -1");
        Checks.polynomial(w, 0, "x*z^2+y*z");
        due("12 three variables", w.moved(0, 1, 5), 5);
        told("12 three variables", w, 5, "1x1y2+2519x1y1z1+1x1z2+2520y1z1+1z2");
        Checks.polynomial(w, 0, "(x+y)^15");
        due("12 degree 15", w.moved(0, 1, 0), 16);
        due("12 degree 15", w.factor(0, 0, 0, 15), 2520);
    }

    private static void average() {
        InvariantWorks w = with(ALL3);
        Checks.polynomial(w, 0, "x^2*y+5");
        due("13 terms", w.average(0, 1), 7);
        due("13 a sixth", w.factor(1, 0, 2, 1) * 6 % 2521, 1);
        due("13 a number", w.factor(1, 0, 0, 0), 5);
        due("13 left alone", w.of(1, 2), 1);
        due("13 in its own place", w.average(0, 0), 7);
        due("13 once more", w.average(0, 2), 7);
        due("13 once more it stays", w.plus(2, 1, -1, 2), 0);
        Checks.polynomial(w, 0, "x-y");
        due("13 nothing is left", w.average(0, 0), 0);
        due("13 others", w.average(6, 0), -1);
        due("13 others", w.average(0, 6), -1);
        due("13 others", w.average(-1, 1), -1);
        due("13 others", w.average(1, -1), -1);
        due("13 nothing happens", w.of(1, 1), 7);
    }

    private static void plus() {
        InvariantWorks w = new InvariantWorks();
        Checks.polynomial(w, 0, "x+y");
        Checks.polynomial(w, 1, "x+2*y+1");
        due("14 terms", w.plus(0, 1, 3, 2), 3);
        told("14 sum", w, 2, "4x1+7y1+3");
        due("14 below 0", w.plus(0, 1, -1, 2), 2);
        told("14 below 0", w, 2, "2520y1+2520");
        due("14 what 2521 leaves", w.plus(0, 1, 2521 * 4 + 1, 2), 3);
        told("14 what 2521 leaves", w, 2, "2x1+3y1+1");
        due("14 the least number", w.plus(0, 1, Integer.MIN_VALUE, 2), 3);
        due("14 the least number", w.factor(2, 0, 0, 0), Math.floorMod(Integer.MIN_VALUE, 2521));
        due("14 with itself", w.plus(0, 0, 1, 0), 2);
        told("14 with itself", w, 0, "2x1+2y1");
        due("14 others", w.plus(6, 0, 1, 0), -1);
        due("14 others", w.plus(0, -1, 1, 0), -1);
        due("14 others", w.plus(0, 0, 1, 6), -1);
        told("14 nothing happens", w, 0, "2x1+2y1");
    }

    private static void product() {
        InvariantWorks w = new InvariantWorks();
        Checks.polynomial(w, 0, "x+y");
        Checks.polynomial(w, 1, "x-y+1");
        due("15 terms", w.product(0, 1, 2), 4);
        told("15 product", w, 2, "1x2+2520y2+1x1+1y1");
        due("15 in its own place", w.product(0, 0, 0), 3);
        told("15 in its own place", w, 0, "1x2+2x1y1+1y2");
        Checks.polynomial(w, 3, "x^14");
        due("15 degree 16", w.product(0, 3, 1), -2);
        told("15 degree 16: nothing happens", w, 1, "1x1+2520y1+1");
        due("15 degree 15", w.product(1, 3, 4), 3);
        due("15 degree 15", w.of(4, 0), 15);
        due("15 with 0", w.product(5, 4, 4), 0);
        due("15 others", w.product(0, 3, 6), -1);
        due("15 others", w.product(6, 3, 0), -1);
        due("15 others", w.product(0, -1, 0), -1);
        w = with(TURN3);
        Checks.polynomial(w, 0, "x+y+z");
        Checks.polynomial(w, 1, "x*y*z+z");
        due("15 three variables", w.product(0, 1, 2), 6);
        told("15 three variables", w, 2, "1x2y1z1+1x1y2z1+1x1y1z2+1x1z1+1y1z1+1z2");
    }

    private static void series() {
        InvariantWorks w = new InvariantWorks();
        for (int degree = 0; degree <= 15; degree++) {
            due("16 all of two", w.series(degree), degree + 1);
        }
        due("16 others", w.series(-1), -1);
        due("16 others", w.series(16), -1);
        w = with("1 0 0/0 1 0/0 0 1");
        for (int degree = 0; degree <= 15; degree++) {
            due("16 all of three", w.series(degree), (degree + 1) * (degree + 2) / 2);
        }
        w = with(ALL3);
        int[] parts = {1, 1, 2, 3, 4, 5, 7, 8, 10, 12, 14, 16, 19, 21, 24, 27};
        for (int degree = 0; degree <= 15; degree++) {
            due("16 parts of a number, three at most", w.series(degree), parts[degree]);
        }
        w = with(MINUS3);
        due("16 none", w.series(7), 0);
        due("16 all", w.series(8), 45);
    }

    private static void base() {
        InvariantWorks w = with(SWAP);
        due("17 terms", w.base(3, 0, 0), 2);
        told("17 first row", w, 0, "1x3+1y3");
        due("17 terms", w.base(3, 1, 0), 2);
        told("17 second row", w, 0, "1x2y1+1x1y2");
        due("17 degree 0", w.base(0, 0, 0), 1);
        told("17 degree 0", w, 0, "1");
        due("17 none such", w.base(3, 2, 0), -1);
        due("17 none such", w.base(3, -1, 0), -1);
        due("17 none such", w.base(0, 1, 0), -1);
        due("17 others", w.base(16, 0, 0), -1);
        due("17 others", w.base(-1, 0, 0), -1);
        due("17 others", w.base(3, 0, 6), -1);
        due("17 others", w.base(3, 0, -1), -1);
        told("17 nothing happens", w, 0, "1");
        // the sum of both is left alone: rows in steps have the first of them alone
        w = with("1 0/1 -1");
        due("17 rows in steps", w.base(1, 0, 0), 1);
        told("17 rows in steps", w, 0, "1x1");
        due("17 rows in steps", w.base(2, 0, 0), 1);
        due("17 rows in steps", w.base(2, 1, 1), 2);
        told("17 rows in steps", w, 0, "1x2");
        told("17 rows in steps", w, 1, "1x1y1+2520y2");
        due("17 degree 15", with(ALL3).base(15, 26, 0), 1);
        w = with(MINUS3);
        due("17 none of an odd degree", w.base(5, 0, 0), -1);
        due("17 the last of an even degree", w.base(14, 119, 0), 1);
        told("17 the last of an even degree", w, 0, "1z14");
    }

    private static void isSystem() {
        InvariantWorks w = new InvariantWorks();
        Checks.polynomial(w, 0, "x^15");
        Checks.polynomial(w, 1, "y^3+x*y^2");
        Checks.polynomial(w, 2, "x^2*y^2");
        Checks.polynomial(w, 3, "x+1");
        Checks.polynomial(w, 4, "5");
        due("18 degrees 18 together", w.isSystem(0, 1, 77), 1);
        due("18 degrees 19 together", w.isSystem(0, 2, 0), -1);
        due("18 both vanish for x", w.isSystem(1, 2, 0), 0);
        due("18 one twice", w.isSystem(1, 1, 0), 0);
        due("18 of more than one degree", w.isSystem(0, 3, 0), 0);
        due("18 a number", w.isSystem(0, 4, 0), 0);
        due("18 0", w.isSystem(0, 5, 0), 0);
        due("18 no such one", w.isSystem(0, 6, 0), -1);
        due("18 no such one", w.isSystem(-1, 0, 0), -1);
        Checks.polynomial(w, 1, "x^2-y^2");
        Checks.polynomial(w, 2, "x*y+x^2");
        due("18 both vanish for x - y", w.isSystem(1, 2, 0), 0);
        Checks.polynomial(w, 2, "x*y");
        due("18 none vanishes but for 0", w.isSystem(1, 2, 0), 1);
        w = with(SWAP);
        Checks.polynomial(w, 0, "x");
        Checks.polynomial(w, 1, "y");
        due("18 not left alone", w.isSystem(0, 1, 0), 0);
        w = with(ALL3);
        Checks.polynomial(w, 0, "x+y+z");
        Checks.polynomial(w, 1, "x*y+y*z+z*x");
        Checks.polynomial(w, 2, "x*y*z");
        Checks.polynomial(w, 3, "x^15+y^15+z^15");
        Checks.polynomial(w, 4, "x^3+y^3+z^3");
        due("18 three", w.isSystem(0, 1, 2), 1);
        due("18 three in another order", w.isSystem(2, 0, 1), 1);
        due("18 three, degrees 18 together", w.isSystem(0, 1, 3), 1);
        due("18 three, degrees 19 together", w.isSystem(0, 4, 3), -1);
        due("18 two of them alike", w.isSystem(0, 1, 1), 0);
        due("18 c matters", w.isSystem(0, 1, 6), -1);
        due("18 c matters", w.isSystem(0, 1, -1), -1);
        due("18 0", w.isSystem(0, 1, 5), 0);
        Checks.polynomial(w, 3, "x^14+y^14+z^14");
        due("18 all vanish for third roots of 1", w.isSystem(0, 1, 3), 0);
        w = with("1 0 0/0 1 0/0 0 1");
        Checks.polynomial(w, 0, "x^15");
        Checks.polynomial(w, 1, "y^2");
        Checks.polynomial(w, 2, "z");
        Checks.polynomial(w, 3, "x^6+y^6");
        Checks.polynomial(w, 4, "y^6-z^6+x*y*z^4");
        Checks.polynomial(w, 5, "z^6+x^6");
        due("18 degrees 15, 2, 1", w.isSystem(0, 1, 2), 1);
        due("18 degrees 6, 6, 6", w.isSystem(3, 4, 5), 1);
        Checks.polynomial(w, 4, "y^6-z^6");
        due("18 degrees 6, 6, 6", w.isSystem(3, 4, 5), 0);
    }

    private static void primaries(InvariantWorks w, int... want) {
        for (int i = 0; i < want.length; i++) {
            due("19 primary " + i / 2, w.primary(i / 2, i % 2), want[i]);
        }
        due("19 none such", w.primary(want.length / 2, 0), -1);
    }

    private static void primary() {
        primaries(new InvariantWorks(), 1, 0, 1, 1);
        primaries(with(SWAP), 1, 0, 2, 0);
        primaries(with("-1 0/0 -1"), 2, 0, 2, 2);
        primaries(with("1 0 0/0 1 0/0 0 1"), 1, 0, 1, 1, 1, 2);
        primaries(with(ALL3), 1, 0, 2, 0, 3, 0);
        primaries(with(MINUS3), 2, 0, 2, 3, 2, 5);
        long w3 = Groups.root(3);
        String three = w3 + " 0 0/0 " + w3 + " 0/0 0 " + w3;
        primaries(with(three), 3, 0, 3, 6, 3, 9);
        InvariantWorks w = with(SWAP);
        due("19 others", w.primary(0, 2), -1);
        due("19 others", w.primary(0, -1), -1);
        due("19 none such", w.primary(-1, 0), -1);
        due("19 none such with D 2", w.primary(2, 0), -1);
        long i = Groups.root(4);
        w = with(i + " 0 0/0 " + i + " 0/0 0 " + i);
        due("19 not among the first 60", w.primary(0, 0), -1);
        long seven = Groups.root(7);
        w = with(seven + " 0/0 1");
        due("19 no degree above 6", w.primary(0, 0), -1);
        due("20 there are no primary ones", w.secondaries(), -1);
        due("21 there are no primary ones", w.secondary(0, 0), -1);
        due("22 there are no primary ones", w.numerator(0), -1);
        due("23 there are no primary ones", w.rewrite(0), -1);
        due("24 there are no primary ones", w.rewritten(0, 0, 0, 0), -1);
        due("25 there are no primary ones", w.relation(0, 0, 0, 0, 0, 0), -1);
    }

    private static void secondaries() {
        due("20 of all", new InvariantWorks().secondaries(), 1);
        InvariantWorks w = with(MINUS3);
        due("20 minus", w.secondaries(), 4);
        int[] rows = {0, 0, 2, 1, 2, 2, 2, 4};
        for (int i = 0; i < 8; i++) {
            due("21 minus", w.secondary(i / 2, i % 2), rows[i]);
        }
        due("21 none such", w.secondary(4, 0), -1);
        due("21 none such", w.secondary(-1, 0), -1);
        due("21 others", w.secondary(0, 2), -1);
        due("21 others", w.secondary(0, -1), -1);
        w = with(TURN3);
        due("20 a turn", w.secondaries(), 2);
        due("21 a turn", w.secondary(1, 0), 3);
        due("21 a turn", w.secondary(1, 1), 1);
        due("21 the first is 1", w.secondary(0, 0), 0);
    }

    private static void numerator() {
        InvariantWorks w = with(MINUS3);
        for (int degree = 0; degree <= 15; degree++) {
            due("22 minus", w.numerator(degree), degree == 0 ? 1 : degree == 2 ? 3 : 0);
        }
        due("22 others", w.numerator(-1), -1);
        due("22 others", w.numerator(16), -1);
        // A turn and signs: degrees 2, 3, 4 and one more of degree 6.
        w = with(TURN3 + ";-1 0 0/0 -1 0/0 0 1");
        due("22 even turns", w.numerator(6), 1);
        due("22 even turns", w.secondaries(), 2);
    }

    private static void rewrite() {
        InvariantWorks w = with(ALL3);
        due("23 0", w.rewrite(5), 0);
        due("26 0", w.count(1), 0);
        due("24 0", w.rewritten(0, 0, 0, 0), 0);
        Checks.polynomial(w, 0, "x*y*z+4");
        due("23 products", w.rewrite(0), 4);
        due("24 4", w.rewritten(0, 0, 0, 0), 4);
        // 6 xyz = p1^3 - 3 p1 p2 + 2 p3
        due("24 a sixth", w.rewritten(0, 3, 0, 0) * 6 % 2521, 1);
        due("24 - a half", w.rewritten(0, 1, 1, 0) * 2 % 2521, 2520);
        due("24 a third", w.rewritten(0, 0, 0, 1) * 3 % 2521, 1);
        Checks.polynomial(w, 0, "x");
        due("23 not left alone", w.rewrite(0), -2);
        due("23 what was rewritten stays", w.count(1), 4);
        due("23 no such k", w.rewrite(6), -1);
        due("23 no such k", w.rewrite(-1), -1);
        due("23 what was rewritten stays", w.rewritten(0, 0, 0, 0), 4);
        Checks.polynomial(w, 0, "x^15+y^15+z^15");
        due("23 degree 15", w.rewrite(0), w.count(1));
        Checks.holds("23 degree 15 has many products", w.count(1) > 20);
        due("24 it is another one now", w.rewritten(0, 0, 0, 0), 0);
        w = with("-1 0 0/0 -1 0/0 0 -1");
        Checks.polynomial(w, 1, "(x+y+z)^2");
        due("23 by secondary ones", w.rewrite(1), 6);
        due("24 by secondary ones", w.rewritten(1, 0, 0, 0), 2);
        due("24 by primary ones", w.rewritten(0, 0, 1, 0), 1);
    }

    private static void rewritten() {
        InvariantWorks w = with(SWAP);
        due("24 nothing is", w.rewritten(0, 0, 0, 0), -1);
        Checks.polynomial(w, 0, "x^2+y^2+3*(x+y)+1");
        due("23 three products", w.rewrite(0), 3);
        due("24 factor", w.rewritten(0, 0, 1, 0), 1);
        due("24 factor", w.rewritten(0, 1, 0, 0), 3);
        due("24 factor", w.rewritten(0, 0, 0, 0), 1);
        due("24 factor 0", w.rewritten(0, 2, 0, 0), 0);
        due("24 factor 0 of a high degree", w.rewritten(0, 9, 9, 0), 0);
        due("24 factor 0 of a high degree", w.rewritten(0, Integer.MAX_VALUE, Integer.MAX_VALUE, 0), 0);
        due("24 powers below 0", w.rewritten(0, -1, 0, 0), -1);
        due("24 powers below 0", w.rewritten(0, 0, -1, 0), -1);
        due("24 powers below 0", w.rewritten(0, 0, 0, -1), -1);
        due("24 with D 2 c 0", w.rewritten(0, 0, 0, 1), -1);
        due("24 no such secondary one", w.rewritten(1, 0, 0, 0), -1);
        due("24 no such secondary one", w.rewritten(-1, 0, 0, 0), -1);
        w.plus(0, 0, 1, 0);
        due("24 it stays when the kept one changes", w.rewritten(0, 1, 0, 0), 3);
        w = with(ALL3);
        w.rewrite(0);
        due("24 a high power of the third", w.rewritten(0, 0, 0, Integer.MAX_VALUE), 0);
        due("24 the third below 0", w.rewritten(0, 0, 0, -1), -1);
    }

    private static void relation() {
        InvariantWorks w = with(MINUS3);
        // primary x^2, y^2, z^2; secondary 1, xy, xz, yz
        due("25 xy xz = x^2 yz", w.relation(1, 2, 3, 1, 0, 0), 1);
        due("25 xy xz", w.relation(1, 2, 0, 1, 0, 0), 0);
        due("25 xy xz", w.relation(1, 2, 3, 0, 0, 0), 0);
        due("25 xy xy = x^2 y^2", w.relation(1, 1, 0, 1, 1, 0), 1);
        due("25 yz yz = y^2 z^2", w.relation(3, 3, 0, 0, 1, 1), 1);
        due("25 1 yz = yz", w.relation(0, 3, 3, 0, 0, 0), 1);
        due("25 yz 1 = yz", w.relation(3, 0, 3, 0, 0, 0), 1);
        due("25 a power too high", w.relation(3, 3, 0, Integer.MAX_VALUE, 0, 0), 0);
        due("25 others", w.relation(4, 0, 0, 0, 0, 0), -1);
        due("25 others", w.relation(0, 4, 0, 0, 0, 0), -1);
        due("25 others", w.relation(0, 0, 4, 0, 0, 0), -1);
        due("25 others", w.relation(-1, 0, 0, 0, 0, 0), -1);
        due("25 others", w.relation(0, -1, 0, 0, 0, 0), -1);
        due("25 others", w.relation(0, 0, -1, 0, 0, 0), -1);
        due("25 others", w.relation(0, 0, 0, -1, 0, 0), -1);
        due("25 others", w.relation(0, 0, 0, 0, -1, 0), -1);
        due("25 others", w.relation(0, 0, 0, 0, 0, -1), -1);
        due("25 with D 2 c 0", new InvariantWorks().relation(0, 0, 0, 0, 0, 1), -1);
        due("25 nothing is told by it", w.count(1), -1);
        Checks.polynomial(w, 0, "x*y+7");
        w.rewrite(0);
        due("25 xz xz = x^2 z^2", w.relation(2, 2, 0, 1, 0, 1), 1);
        due("25 what is told stays", w.rewritten(1, 0, 0, 0), 1);
        due("25 what is told stays", w.rewritten(0, 1, 0, 1), 0);
        due("25 what is told stays", w.count(1), 2);
        // the even turns of a cube: one more of degree 9
        w = with(TURN3 + ";0 -1 0/-1 0 0/0 0 -1;-1 0 0/0 -1 0/0 0 1");
        due("25 degree 9", w.secondary(1, 0), 9);
        due("25 degree 18", w.relation(1, 1, 0, 0, 0, 0), -2);
        due("25 others go first", w.relation(1, 1, 2, 0, 0, 0), -1);
        due("25 others go first", w.relation(1, 1, 0, -1, 0, 0), -1);
        due("25 degree 9 by 1", w.relation(0, 1, 1, 0, 0, 0), 1);
    }

    private static void count() {
        InvariantWorks w = with(SWAP);
        due("26 tape", w.count(0), 0);
        w.feed(0, 0, 0, 0, 0);
        due("26 tape", w.count(0), 20);
        due("26 nothing is", w.count(1), -1);
        due("26 others", w.count(2), -1);
        due("26 others", w.count(-1), -1);
        w.tables(0);
        Checks.polynomial(w, 0, "x+y+5");
        w.rewrite(0);
        due("26 products", w.count(1), 2);
    }
}
