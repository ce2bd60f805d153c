import java.util.List;
import java.util.Random;

/** Bases, systems, primary and secondary ones: each sentence of the document that names a boundary has its test. */
public final class SystemEdgesTest {
    private static final String SWAP = "0 1/1 0";
    private static final String ONE3 = "1 0 0/0 1 0/0 0 1";
    private static final String ALL3 = "0 1 0/0 0 1/1 0 0;0 1 0/1 0 0/0 0 1";
    private static final String CUBE = ALL3 + ";-1 0 0/0 1 0/0 0 1";
    private static final String TURN3 = "0 1 0/0 0 1/1 0 0";
    private static final String MINUS3 = "-1 0 0/0 -1 0/0 0 -1";
    /** Twelve members, primary ones of degrees 6, 6, 6, secondary ones up to degree 15. */
    private static final String HIGH = "676 0 0/0 676 0/0 0 1845;0 1 0/1 0 0/0 0 -1";

    private SystemEdgesTest() {
    }

    public static void main(String[] args) {
        inPlaceOfThose();
        seriesEdges();
        seriesOthers();
        baseOfDegree();
        baseSteps();
        baseOthers();
        systemDegrees();
        systemNumbers();
        systemOneDegree();
        systemLeftAlone();
        systemMonomials();
        systemThird();
        systemOthers();
        systemAbove();
        primaryDegrees();
        primaryUnlike();
        primaryMultiple();
        primaryLeast();
        primarySixty();
        primaryOthers();
        noPrimary();
        secondaryFirst();
        secondaryToFifteen();
        secondaryMany();
        secondaryOthers();
        numeratorEdges();
        numeratorOthers();
        Checks.end();
    }

    private static void due(String call, long got, long want) {
        Checks.due(call, got, want);
    }

    // ---- new tables

    private static void inPlaceOfThose() {
        Checks.says("are TABLES in place of those there were");
        List<List<long[][]>> sets = Groups.sets();
        Random random = new Random(11);
        for (int object = 0; object < 12; object++) {
            InvariantWorks old = new InvariantWorks();
            for (int i = 0; i < 8; i++) {
                String text = Groups.text(sets.get(random.nextInt(sets.size())), random);
                Checks.tables(old, text);
                Checks.due("as for a new object, " + text, all(old), all(Checks.with(text)));
            }
        }
        String[] turns = {HIGH, SWAP, MINUS3, "1 0/0 " + Groups.root(7), ALL3, "-1 0/0 -1", CUBE, "1 0/0 1", HIGH};
        InvariantWorks old = new InvariantWorks();
        for (String text : turns) {
            Checks.tables(old, text);
            Checks.due("as for a new object, " + text, all(old), all(Checks.with(text)));
        }
    }

    /** What the tables alone tell, all of it asked for. */
    private static String all(InvariantWorks w) {
        StringBuilder text = new StringBuilder();
        for (int what = 0; what < 6; what++) {
            text.append(' ').append(w.group(what));
        }
        for (int degree = 0; degree <= 15; degree++) {
            text.append(" series ").append(w.series(degree)).append(" numerator ").append(w.numerator(degree));
        }
        for (int degree = 15; degree > 0; degree -= 3) {
            w.plus(0, 0, -1, 0);
            text.append(" base ").append(w.base(degree, w.series(degree) / 2, 0)).append(Checks.told(w, 0));
            text.append(" left alone ").append(w.of(0, 2)).append(' ').append(w.of(0, 4));
        }
        for (int k = 0; k < 3; k++) {
            text.append(" primary ").append(w.primary(k, 0)).append(':').append(w.primary(k, 1));
        }
        int many = w.secondaries();
        text.append(" secondaries ").append(many);
        for (int k = 0; k < many; k++) {
            text.append(' ').append(w.secondary(k, 0)).append(':').append(w.secondary(k, 1));
        }
        for (int j = 0; j < many; j++) {
            int last = many > 1 ? 1 : 0;
            text.append(" relation ").append(w.relation(last, last, j, 0, 0, 0)).append(' ').append(w.relation(last, last, j, 1, 0, 0));
            text.append(' ').append(w.relation(last, last, j, 0, 1, 0)).append(' ').append(w.relation(last, last, j, 0, 2, 0));
        }
        return text.toString();
    }

    // ---- series(), base()

    private static void seriesEdges() {
        Checks.says("SERIES: how many ROWS BASE of a degree has. SERIES of a degree (0 to 15)");
        InvariantWorks w = new InvariantWorks();
        InvariantWorks three = Checks.with(ONE3);
        InvariantWorks minus = Checks.with(MINUS3);
        for (int degree = 0; degree <= 15; degree++) {
            due("all of two", w.series(degree), degree + 1);
            due("all of three", three.series(degree), (degree + 1) * (degree + 2) / 2);
            due("of even degrees alone", minus.series(degree), degree % 2 == 1 ? 0 : (degree + 1) * (degree + 2) / 2);
        }
        w = Checks.with("1 0/0 " + Groups.root(45));
        for (int degree = 0; degree <= 15; degree++) {
            due("x alone", w.series(degree), 1);
        }
        w = Checks.with(CUBE);
        int[] even = {1, 1, 2, 3, 4, 5, 7, 8};
        for (int degree = 0; degree <= 15; degree++) {
            due("48 members", w.series(degree), degree % 2 == 1 ? 0 : even[degree / 2]);
        }
    }

    private static void seriesOthers() {
        Checks.says("series: NONE: others");
        InvariantWorks w = Checks.with(SWAP);
        for (int degree : Checks.outside(15)) {
            due("series(" + degree + ")", w.series(degree), -1);
        }
    }

    private static void baseOfDegree() {
        Checks.says("BASE of a degree (0 to 15): of all POLYNOMIALS LEFT ALONE of that degree alone (0, too)");
        InvariantWorks w = Checks.with(MINUS3);
        due("degree 0", w.base(0, 0, 0), 1);
        Checks.due("degree 0", Checks.told(w, 0), "1");
        due("none of degree 15", w.base(15, 0, 0), -1);
        w = Checks.with(ALL3);
        due("degree 15", w.base(15, 0, 0), 3);
        Checks.due("degree 15", Checks.told(w, 0), "1x15+1y15+1z15");
        for (int degree = 0; degree <= 15; degree++) {
            for (int row = 0; row < w.series(degree); row++) {
                w.base(degree, row, 0);
                due("left alone", w.of(0, 2), 1);
                due("of that degree", w.of(0, 0), degree);
                due("of that degree alone", w.of(0, 3), 1);
            }
        }
    }

    private static void baseSteps() {
        Checks.says("the first factor that is not 0 of each is 1, and 0 in all others, these first ones stand farther behind row by row: ROWS are numbered so from 0 on");
        // each told so that its variables become sums
        String[] texts = {"1 0/1 -1", "-1 1/-1 0", "1 0 0/1 -1 0/2 0 1", "0 -1 0/1 -1 0/0 0 1", "0 1 0/0 0 1/1 0 0"};
        for (String text : texts) {
            InvariantWorks w = Checks.with(text);
            for (int degree = 0; degree <= 6; degree++) {
                steps(w, degree);
            }
            steps(w, 15);
        }
    }

    private static void steps(InvariantWorks w, int degree) {
        int many = w.series(degree);
        int[][] first = new int[many][3];
        for (int row = 0; row < many; row++) {
            w.base(degree, row, 0);
            due("the first factor", w.term(0, 0, 0), 1);
            for (int v = 0; v < 3; v++) {
                first[row][v] = w.term(0, 0, v + 1);
            }
            for (int before = 0; before < row; before++) {
                due("0 in all others", w.factor(0, first[before][0], first[before][1], first[before][2]), 0);
            }
            if (row > 0) {
                int[] a = first[row - 1];
                int[] b = first[row];
                Checks.holds("farther behind", a[0] > b[0] || a[0] == b[0] && a[1] > b[1]);
            }
        }
        for (int row = 0; row < many; row++) {
            w.base(degree, row, 0);
            for (int behind = row + 1; behind < many; behind++) {
                due("0 in those ahead", w.factor(0, first[behind][0], first[behind][1], first[behind][2]), 0);
            }
        }
    }

    private static void baseOthers() {
        Checks.says("A ROW of BASE of a degree is kept as to: TERMS; NONE, and nothing happens: others, none such");
        InvariantWorks w = Checks.with(SWAP);
        Checks.polynomial(w, 0, "x+3*y");
        Checks.polynomial(w, 5, "y^4");
        String before = Checks.state(w);
        for (int degree : Checks.outside(15)) {
            due("base(" + degree + ", 0, 0)", w.base(degree, 0, 0), -1);
        }
        for (int degree = 0; degree <= 15; degree++) {
            for (int row : Checks.outside(w.series(degree) - 1)) {
                due("base(" + degree + ", " + row + ", 0)", w.base(degree, row, 0), -1);
            }
        }
        for (int to : Checks.outside(5)) {
            due("base(2, 0, " + to + ")", w.base(2, 0, to), -1);
        }
        Checks.due("nothing happens", Checks.state(w), before);
        due("the last row", w.base(15, 7, 0), 2);
        Checks.due("the last row", Checks.told(w, 0), "1x8y7+1x7y8");
        due("to 5", w.base(2, 1, 5), 1);
        Checks.due("to 5", Checks.told(w, 5), "1x1y1");
        due("none of an odd degree", Checks.with(MINUS3).base(1, 0, 0), -1);
    }

    // ---- isSystem()

    private static InvariantWorks keeping(String tables, String... texts) {
        InvariantWorks w = Checks.with(tables);
        for (int k = 0; k < texts.length; k++) {
            Checks.polynomial(w, k, texts[k]);
        }
        return w;
    }

    private static void systemDegrees() {
        Checks.says("so that in degree 1 more than all their degrees less D together, each MONOMIAL is a sum of products of POLYNOMIALS with them");
        InvariantWorks w = keeping("1 0/0 1", "x", "y", "x+y", "x^2", "y^2", "x*y");
        due("x, y", w.isSystem(0, 1, 0), 1);
        due("x, x + y", w.isSystem(0, 2, 0), 1);
        due("x, x", w.isSystem(0, 0, 0), 0);
        due("x^2, y^2: all of degree 3, not all of 2", w.isSystem(3, 4, 0), 1);
        due("x^2, xy", w.isSystem(3, 5, 0), 0);
        due("x + y, xy", w.isSystem(2, 5, 0), 1);
        due("x, xy", w.isSystem(0, 5, 0), 0);
        long i = Groups.root(4);
        w = keeping("1 0/0 1", "x^2+y^2", "x+" + i + "*y", "x+2*y", "x^2-11*y^2", "(x^2-11*y^2)*(x+y)", "3*x^2+3*y^2");
        due("x^2 + y^2 is a multiple of x + i y", w.isSystem(0, 1, 0), 0);
        due("and none of x + 2 y", w.isSystem(0, 2, 0), 1);
        due("one a multiple of the other", w.isSystem(3, 4, 0), 0);
        due("one 3 times the other", w.isSystem(0, 5, 0), 0);
        due("of one degree", w.isSystem(0, 3, 0), 1);
        w = keeping(ONE3, "x^2", "y^3", "z^4", "x*y*z", "x^2+y^2+z^2", "x*y+z^2");
        due("x^2, y^3, z^4", w.isSystem(0, 1, 2), 1);
        due("x^2, y^3, xyz", w.isSystem(0, 1, 3), 0);
        due("x^2, xyz, z^4", w.isSystem(0, 3, 2), 0);
        due("x^2, y^3, xy + z^2", w.isSystem(0, 1, 5), 1);
        due("x^2, y^3, x^2 + y^2 + z^2", w.isSystem(0, 1, 4), 1);
    }

    private static void systemNumbers() {
        Checks.says("A SYSTEM: D POLYNOMIALS, each .. not 0 and 1 at least");
        InvariantWorks w = keeping("1 0/0 1", "x", "y", "1", "0", "2520");
        due("x, 1", w.isSystem(0, 2, 0), 0);
        due("1, x", w.isSystem(2, 0, 0), 0);
        due("x, 0", w.isSystem(0, 3, 0), 0);
        due("0, x", w.isSystem(3, 0, 0), 0);
        due("0, 0", w.isSystem(3, 3, 0), 0);
        due("1, -1", w.isSystem(2, 4, 0), 0);
        due("x, y", w.isSystem(0, 1, 0), 1);
        w = keeping(ONE3, "x", "y", "z", "0", "1");
        due("x, y, z", w.isSystem(0, 1, 2), 1);
        due("x, y, 0", w.isSystem(0, 1, 3), 0);
        due("x, 0, z", w.isSystem(0, 3, 2), 0);
        due("0, y, z", w.isSystem(3, 1, 2), 0);
        due("x, y, 1", w.isSystem(0, 1, 4), 0);
        due("1, 1, 1", w.isSystem(4, 4, 4), 0);
    }

    private static void systemOneDegree() {
        Checks.says("A SYSTEM: D POLYNOMIALS, each of one degree alone");
        InvariantWorks w = keeping("1 0/0 1", "x", "y", "x+1", "y^2+x", "x^2+y^2");
        due("x + 1, y", w.isSystem(2, 1, 0), 0);
        due("y, x + 1", w.isSystem(1, 2, 0), 0);
        due("x, y^2 + x", w.isSystem(0, 3, 0), 0);
        due("x, x^2 + y^2", w.isSystem(0, 4, 0), 1);
        w = keeping(ONE3, "x", "y", "z+1", "z^2");
        due("x, y, z + 1", w.isSystem(0, 1, 2), 0);
        due("x, y, z^2", w.isSystem(0, 1, 3), 1);
    }

    private static void systemLeftAlone() {
        Checks.says("A SYSTEM: D POLYNOMIALS, each .. LEFT ALONE");
        InvariantWorks w = keeping(SWAP, "x", "y", "x+y", "x*y", "x-y");
        due("x, y", w.isSystem(0, 1, 0), 0);
        due("x + y, x", w.isSystem(2, 0, 0), 0);
        due("x - y, x + y", w.isSystem(4, 2, 0), 0);
        due("x + y, xy", w.isSystem(2, 3, 0), 1);
        w = keeping(ALL3, "x+y+z", "x*y+y*z+z*x", "x*y*z", "(x-y)*(y-z)*(z-x)");
        due("all left alone", w.isSystem(0, 1, 2), 1);
        due("the third by some alone", w.isSystem(0, 1, 3), 0);
    }

    private static void systemMonomials() {
        Checks.says("1 if those kept as a, b (with D 3 and c) are a SYSTEM, 0");
        InvariantWorks w = keeping(ONE3, "x^6+y^6", "y^6-z^6", "z^6+x^6", "z^6+2*x^6", "x^5*y");
        due("6, 6, 6: one is the sum of the others", w.isSystem(0, 1, 2), 0);
        due("6, 6, 6", w.isSystem(0, 1, 3), 1);
        due("6, 6, 6: in any order", w.isSystem(3, 0, 1), 1);
        due("6, 6, 6: x^5 y", w.isSystem(0, 1, 4), 1);
        due("6, 6, 6: all vanish for x = y = 0", w.isSystem(0, 4, 4), 0);
        due("one of them twice", w.isSystem(0, 1, 1), 0);
    }

    private static void systemThird() {
        Checks.says("with D 2 c is of no matter");
        InvariantWorks w = keeping("1 0/0 1", "x^9", "y^9", "x^15", "0", "x+1");
        for (int c : Checks.outside(5)) {
            due("c " + c, w.isSystem(0, 1, c), 1);
        }
        for (int c = 0; c < 6; c++) {
            due("c " + c, w.isSystem(0, 1, c), 1);
        }
    }

    private static void systemOthers() {
        Checks.says("isSystem: NONE: no such one");
        InvariantWorks two = keeping("1 0/0 1", "x", "y");
        InvariantWorks three = keeping(ONE3, "x", "y", "z");
        for (int k : Checks.outside(5)) {
            due("a " + k, two.isSystem(k, 1, 2), -1);
            due("b " + k, two.isSystem(0, k, 2), -1);
            due("with D 3 a " + k, three.isSystem(k, 1, 2), -1);
            due("with D 3 b " + k, three.isSystem(0, k, 2), -1);
            due("with D 3 c " + k, three.isSystem(0, 1, k), -1);
        }
        due("the last ones are asked for", two.isSystem(5, 5, 5), 0);
        due("the last ones are asked for", three.isSystem(5, 5, 5), 0);
    }

    private static void systemAbove() {
        Checks.says("isSystem: NONE: degrees above 18 together");
        InvariantWorks w = new InvariantWorks();
        for (int degree = 3; degree <= 15; degree++) {
            Checks.polynomial(w, 0, "x^" + degree);
            Checks.polynomial(w, 1, "y^" + (18 - degree));
            due("18 together", w.isSystem(0, 1, 0), 1);
            Checks.polynomial(w, 1, "x*y^" + (17 - degree));
            due("18 together", w.isSystem(0, 1, 0), 0);
            Checks.polynomial(w, 1, "y^" + Math.min(15, 19 - degree));
            due("19 together", w.isSystem(0, 1, 0), degree == 3 ? 1 : -1);
        }
        Checks.polynomial(w, 0, "x^15+1");
        Checks.polynomial(w, 1, "y^4");
        due("19 together, of more than one degree", w.isSystem(0, 1, 0), -1);
        due("30 together", w.isSystem(0, 0, 0), -1);
        w = keeping(ONE3, "x^15", "y^2", "z", "z^2", "y^15");
        due("15, 2, 1", w.isSystem(0, 1, 2), 1);
        due("15, 1, 2", w.isSystem(0, 2, 1), 1);
        due("15, 2, 2", w.isSystem(0, 1, 3), -1);
        due("1, 2, 15", w.isSystem(2, 3, 4), 0);
        due("45", w.isSystem(0, 0, 0), -1);
        w = keeping(ONE3, "x^6", "y^6", "z^6", "z^7", "0", "x^6+y");
        due("6, 6, 6", w.isSystem(0, 1, 2), 1);
        due("6, 6, 7", w.isSystem(0, 1, 3), -1);
        due("6, 7, 6", w.isSystem(0, 3, 2), -1);
        due("7, 6, 6", w.isSystem(3, 1, 2), -1);
        due("6, 6 and 0", w.isSystem(0, 1, 4), 0);
        due("7, 6 and 0", w.isSystem(3, 1, 4), 0);
    }

    // ---- primary ones

    private static void primaries(String text, int... want) {
        InvariantWorks w = Checks.with(text);
        for (int i = 0; i < want.length; i++) {
            due("primary(" + i / 2 + ", " + i % 2 + ") of " + text, w.primary(i / 2, i % 2), want[i]);
        }
        due("no more of them", w.primary(want.length / 2, 0), -1);
        due("no more of them", w.primary(want.length / 2, 1), -1);
    }

    private static void primaryDegrees() {
        Checks.says("PRIMARY ones: going through rows of D ROWS of BASES of degrees 1 to 6");
        primaries("1 0/0 1", 1, 0, 1, 1);
        primaries(ONE3, 1, 0, 1, 1, 1, 2);
        primaries("1 0/0 " + Groups.root(6), 1, 0, 6, 1);
        primaries("1 0/0 " + Groups.root(7));
        long six = Groups.root(6);
        primaries(six + " 0/0 " + six, 6, 0, 6, 6);
        primaries(six + " 0/0 1;1 0/0 " + six, 6, 0, 6, 1);
        primaries(HIGH, 6, 0, 6, 1, 6, 9);
    }

    private static void primaryUnlike() {
        Checks.says("unlike ones, each row rising (by degree, then number)");
        // x^2, xy, y^2: the first and the last, not one of them twice
        primaries("-1 0/0 -1", 2, 0, 2, 2);
        primaries(MINUS3, 2, 0, 2, 3, 2, 5);
        // one of degree 1 alone, so not 1, 1, 3
        primaries(TURN3, 1, 0, 2, 0, 3, 0);
        // x^3 would rise to xy only backwards
        primaries(Groups.root(3) + " 0/0 1", 1, 0, 3, 0);
    }

    private static void primaryMultiple() {
        Checks.says("whose degrees' product is a multiple of the number of MEMBERS");
        primaries(ALL3, 1, 0, 2, 0, 3, 0);
        primaries(CUBE, 2, 0, 4, 0, 6, 0);
        for (List<long[][]> set : Groups.sets()) {
            InvariantWorks w = new InvariantWorks();
            int many = Checks.tables(w, Groups.text(set, new Random(6)));
            int product = 1;
            for (int k = 0; k < w.group(1); k++) {
                product *= w.primary(k, 0);
            }
            Checks.holds("a multiple of " + many, w.primary(0, 0) < 0 || product % many == 0);
        }
    }

    private static void primaryLeast() {
        Checks.says("that of the least product first, of one product the row that is least (its first one tells, then the second ..): the first one that is a SYSTEM");
        // both would do: the row of degrees 2, 2, 6 is less, but its product is not
        String text = "-1-675 676/0-676 0/0 0-1846";
        primaries(text, 2, 0, 3, 0, 3, 1);
        InvariantWorks w = Checks.with(text);
        due("six members", w.group(0), 6);
        w.base(2, 0, 0);
        w.base(2, 1, 1);
        w.base(6, 0, 2);
        due("a system of product 24", w.isSystem(0, 1, 2), 1);
        // x + y goes with x^2 + y^2 and with xy: the one that is less
        primaries(SWAP, 1, 0, 2, 0);
        w = keeping(SWAP, "x+y", "x*y");
        due("a system, too", w.isSystem(0, 1, 0), 1);
        // x^6 + y^6 and z^6 go with x^5y + xy^5 and with x^3y^3: the one that is less
        primaries(HIGH, 6, 0, 6, 1, 6, 9);
        w = Checks.with(HIGH);
        w.base(6, 0, 0);
        w.base(6, 4, 1);
        w.base(6, 9, 2);
        due("a system, too", w.isSystem(0, 1, 2), 1);
    }

    private static void primarySixty() {
        Checks.says("of the first 60 of these that are asked; else there is none");
        // yz; six of degree 4; six of degree 6: 15 of product 32, 36 of product 48, then of product 64
        // 4 and 3 and 1 more till x^4, y^4, z^4 is the 60th
        long i = Groups.root(4);
        primaries(i + " 0 0/0 " + i + " 0/0 0-" + i + ";-1 0 0/0 1 0/0 0 1", 4, 0, 4, 3, 4, 5);
        // xy, z^2; three of degree 4; six of degree 6: 6 of product 24, 36 of 48, then of product 72
        // 15 with xy and 3 with z^2 more till z^2, x^6, y^6 is the 61st
        long six = Groups.root(6);
        String text = six + " 0 0/0 " + Oracle.inv(six) + " 0/0 0 1;1 0 0/0 1 0/0 0 -1";
        primaries(text);
        InvariantWorks w = Checks.with(text);
        due("though there are such", w.base(2, 1, 0) + w.base(6, 0, 1) + w.base(6, 4, 2), 3);
        due("though there are such", w.isSystem(0, 1, 2), 1);
    }

    private static void primaryOthers() {
        Checks.says("Of the k-th PRIMARY one, what 0: degree, 1: its ROW in that BASE; NONE: others, none such");
        for (String text : new String[] {SWAP, ALL3}) {
            InvariantWorks w = Checks.with(text);
            int last = w.group(1) - 1;
            due("the last one", w.primary(last, 0), last + 1);
            due("its row", w.primary(last, 1), 0);
            for (int k : Checks.outside(last)) {
                due("primary(" + k + ", 0)", w.primary(k, 0), -1);
                due("primary(" + k + ", 1)", w.primary(k, 1), -1);
            }
            for (int what : Checks.outside(1)) {
                due("primary(0, " + what + ")", w.primary(0, what), -1);
                due("primary(" + last + ", " + what + ")", w.primary(last, what), -1);
            }
        }
    }

    private static void noPrimary() {
        Checks.says("NONE: (there are none), there are no PRIMARY ones");
        InvariantWorks w = Checks.with("1 0/0 " + Groups.root(7));
        for (int k = 0; k < 3; k++) {
            due("primary(" + k + ", 0)", w.primary(k, 0), -1);
            due("primary(" + k + ", 1)", w.primary(k, 1), -1);
        }
        due("secondaries()", w.secondaries(), -1);
        due("secondary(0, 0)", w.secondary(0, 0), -1);
        due("secondary(0, 1)", w.secondary(0, 1), -1);
        for (int degree = 0; degree <= 15; degree++) {
            due("numerator(" + degree + ")", w.numerator(degree), -1);
        }
        due("series is told", w.series(7), 2);
        Checks.tables(w, SWAP);
        due("other tables have some", w.secondaries(), 1);
        Checks.tables(w, "1 0/0 " + Groups.root(7));
        due("and these again have none", w.secondaries(), -1);
    }

    // ---- secondary ones

    private static void secondaryFirst() {
        Checks.says("(The first is 1.)");
        for (String text : new String[] {"1 0/0 1", SWAP, ALL3, MINUS3, HIGH}) {
            InvariantWorks w = Checks.with(text);
            due("degree", w.secondary(0, 0), 0);
            due("row", w.secondary(0, 1), 0);
            due("just one of degree 0", w.numerator(0), 1);
        }
    }

    private static void secondaryToFifteen() {
        Checks.says("SECONDARY ones: degree by degree from 0 to 15, ROWS of its BASE one by one: one is SECONDARY, if it is no sum of products of those SECONDARY ahead (of that degree, too) with POLYNOMIALS in the PRIMARY ones");
        InvariantWorks w = Checks.with(HIGH);
        int[] degrees = {0, 3, 6, 6, 6, 6, 6, 6, 6, 9, 9, 9, 9, 9, 9, 9, 12, 15};
        int[] rows = {0, 0, 2, 3, 4, 5, 6, 7, 8, 0, 1, 3, 5, 6, 7, 8, 19, 8};
        for (int k = 0; k < 18; k++) {
            due("degree of " + k, w.secondary(k, 0), degrees[k]);
            due("row of " + k, w.secondary(k, 1), rows[k]);
        }
        due("all", w.secondaries(), 18);
        w = Checks.with(MINUS3);
        int[] minus = {0, 0, 2, 1, 2, 2, 2, 4};
        for (int i = 0; i < 8; i++) {
            due("xy, xz, yz", w.secondary(i / 2, i % 2), minus[i]);
        }
    }

    private static void secondaryMany() {
        Checks.says("As many as the product of degrees by the number of MEMBERS. How many SECONDARY ones there are");
        for (List<long[][]> set : Groups.sets()) {
            InvariantWorks w = new InvariantWorks();
            int many = Checks.tables(w, Groups.text(set, new Random(7)));
            int product = 1;
            for (int k = 0; k < w.group(1); k++) {
                product *= w.primary(k, 0);
            }
            due("of " + many + " members", w.secondaries(), w.primary(0, 0) < 0 ? -1 : product / many);
        }
        due("just one", Checks.with(CUBE).secondaries(), 1);
    }

    private static void secondaryOthers() {
        Checks.says("Of the k-th SECONDARY one, what 0: degree, 1: its ROW in that BASE; NONE: others, none such");
        for (String text : new String[] {SWAP, MINUS3, HIGH}) {
            InvariantWorks w = Checks.with(text);
            int last = w.secondaries() - 1;
            Checks.holds("the last one", w.secondary(last, 0) >= 0 && w.secondary(last, 1) >= 0);
            for (int k : Checks.outside(last)) {
                due("secondary(" + k + ", 0)", w.secondary(k, 0), -1);
                due("secondary(" + k + ", 1)", w.secondary(k, 1), -1);
            }
            for (int what : Checks.outside(1)) {
                due("secondary(0, " + what + ")", w.secondary(0, what), -1);
                due("secondary(" + last + ", " + what + ")", w.secondary(last, what), -1);
            }
        }
    }

    private static void numeratorEdges() {
        Checks.says("How many SECONDARY ones are of a degree (0 to 15)");
        InvariantWorks w = Checks.with(HIGH);
        int[] want = {1, 0, 0, 1, 0, 0, 7, 0, 0, 7, 0, 0, 1, 0, 0, 1};
        for (int degree = 0; degree <= 15; degree++) {
            due("numerator(" + degree + ")", w.numerator(degree), want[degree]);
        }
        w = Checks.with(CUBE);
        for (int degree = 0; degree <= 15; degree++) {
            due("just 1: numerator(" + degree + ")", w.numerator(degree), degree == 0 ? 1 : 0);
        }
    }

    private static void numeratorOthers() {
        Checks.says("numerator: NONE: others");
        InvariantWorks w = Checks.with(HIGH);
        for (int degree : Checks.outside(15)) {
            due("numerator(" + degree + ")", w.numerator(degree), -1);
        }
    }
}
