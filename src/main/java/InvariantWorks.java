import java.util.Arrays;
import java.util.NoSuchElementException;

/** Finite groups of tables of numbers, and the polynomials that they leave alone. */
public final class InvariantWorks {
    public static final int NONE = -1;

    private static final int PRIME = 2521;
    // The power that turns a number into that which with it gives 1.
    private static final int TO_INVERT = PRIME - 2;
    private static final int TOP = 15;
    private static final int GRADES = 16;
    private static final int TAPE_ROOM = 400;
    private static final int FED = 20;
    private static final int KEPT = 6;
    private static final int MOST_MEMBERS = 48;
    private static final int MOST_TABLES = 4;
    private static final int CELLS = 9;
    private static final int MOST_OPEN = 8;
    private static final int MOST_ASKED = 60;
    private static final int TOP_PRIMARY = 6;
    private static final int MOST_DEGREES = 18;
    private static final int MOST_SECONDARY = 216;
    private static final int MONOMIALS_OF_ALL = 816;
    private static final int MONOMIALS_OF_TOP = 136;
    private static final int CANNOT = -2;

    private final byte[] tape = new byte[TAPE_ROOM];
    private int taped;
    private final int[][] kept = new int[KEPT][MONOMIALS_OF_ALL];
    // Answers are made here first, as the one that they replace may be one they are made of.
    private final int[] fresh = new int[MONOMIALS_OF_ALL];
    private final Shape plane = new Shape(2);
    private final Shape space = new Shape(3);
    private Shape shape = plane;
    // What a text tells is built in the spare one, so that a fault leaves the other as it was.
    private Members members = new Members();
    private Members spare = new Members();
    private final Reader reader = new Reader(tape);
    private final SumReader sumReader = new SumReader(reader);
    private final Mover mover = new Mover();
    private final Echelon echelon = new Echelon();
    private final Bases bases = new Bases(mover, echelon);
    private final PrimarySearch search = new PrimarySearch(bases, echelon);
    private final Rewriter rewriter = new Rewriter(bases, search);

    public InvariantWorks() {
        members.grow();
        startAgain();
    }

    public int feed(int a, int b, int c, int d, int e) {
        if (taped + FED > TAPE_ROOM) {
            return NONE;
        }
        putBytes(a);
        putBytes(b);
        putBytes(c);
        putBytes(d);
        putBytes(e);
        return taped;
    }

    public int tables(int n) {
        if (n < 0 || n > taped) {
            return NONE;
        }
        taped = 0;
        reader.open(n);
        if (!reader.readTables(spare)) {
            return CANNOT - reader.fault;
        }
        if (!spare.grow()) {
            return CANNOT - 4;
        }
        Members old = members;
        members = spare;
        spare = old;
        if (members.variables != old.variables) {
            shape = members.variables == 3 ? space : plane;
            for (int k = 0; k < KEPT; k++) {
                Arrays.fill(kept[k], 0);
            }
        }
        startAgain();
        return members.many;
    }

    public int polynomial(int k, int n) {
        if (!isKept(k) || n < 0 || n > taped) {
            return NONE;
        }
        taped = 0;
        reader.open(n);
        int[] read = sumReader.readAll(shape);
        if (reader.fault != 0) {
            return CANNOT - reader.fault;
        }
        System.arraycopy(read, 0, kept[k], 0, shape.size);
        return shape.degreeOf(kept[k]);
    }

    // ---- the group

    public int group(int what) {
        switch (what) {
            case 0:
                return members.many;
            case 1:
                return members.variables;
            case 2:
                return members.tables;
            case 3:
                return members.lots();
            case 4:
                return members.commonPower();
            case 5:
                return members.isEitherOrder() ? 1 : 0;
            default:
                return NONE;
        }
    }

    public int member(int g, int row, int column) {
        int wide = members.variables;
        if (!isMember(g) || row < 0 || row >= wide || column < 0 || column >= wide) {
            return NONE;
        }
        return members.cells[CELLS * g + wide * row + column];
    }

    public int times(int g, int h) {
        if (!isMember(g) || !isMember(h)) {
            return NONE;
        }
        return members.products[MOST_MEMBERS * g + h];
    }

    public int about(int g, int what) {
        if (!isMember(g)) {
            return NONE;
        }
        switch (what) {
            case 0:
                return members.inverses[g];
            case 1:
                return members.orders[g];
            case 2:
                return determinant(members.cells, CELLS * g, members.variables);
            case 3:
                return members.trace(g);
            default:
                return NONE;
        }
    }

    // ---- polynomials

    public int of(int k, int what) {
        if (!isKept(k)) {
            return NONE;
        }
        switch (what) {
            case 0:
                return shape.degreeOf(kept[k]);
            case 1:
                return shape.termsOf(kept[k]);
            case 2:
                return isLeftAlone(kept[k]) ? 1 : 0;
            case 3:
                return shape.isOneDegree(kept[k]) ? 1 : 0;
            case 4:
                return unlikeMoved(kept[k]);
            default:
                return NONE;
        }
    }

    public int factor(int k, int a, int b, int c) {
        if (!isKept(k) || !isPower(a) || !isPower(b) || !isPower(c)) {
            return NONE;
        }
        if (c > 0 && shape.variables < 3) {
            return NONE;
        }
        int degree = a + b + c;
        if (degree > TOP) {
            return 0;
        }
        return kept[k][shape.start[degree] + shape.first[b + c] + c];
    }

    public int term(int k, int i, int what) throws NoSuchElementException {
        if (!isKept(k) || i < 0 || what < 0 || what > 3) {
            throw new NoSuchElementException("no such term");
        }
        int seen = 0;
        for (int degree = TOP; degree >= 0; degree--) {
            int at = shape.start[degree];
            int many = shape.first[degree + 1];
            for (int place = 0; place < many; place++) {
                if (kept[k][at + place] == 0) {
                    continue;
                }
                if (seen == i) {
                    return what == 0 ? kept[k][at + place] : shape.power(degree, place, what - 1);
                }
                seen++;
            }
        }
        throw new NoSuchElementException("no such term");
    }

    public int moved(int k, int g, int to) {
        if (!isKept(k) || !isMember(g) || !isKept(to)) {
            return NONE;
        }
        Arrays.fill(fresh, 0);
        mover.use(g);
        mover.addAllMoved(kept[k], fresh);
        return keepFresh(to);
    }

    public int average(int k, int to) {
        if (!isKept(k) || !isKept(to)) {
            return NONE;
        }
        Arrays.fill(fresh, 0);
        for (int g = 0; g < members.many; g++) {
            mover.use(g);
            mover.addAllMoved(kept[k], fresh);
        }
        int part = raise(members.many, TO_INVERT);
        for (int i = 0; i < shape.size; i++) {
            fresh[i] = fresh[i] % PRIME * part % PRIME;
        }
        return keepFresh(to);
    }

    public int plus(int a, int b, int f, int to) {
        if (!isKept(a) || !isKept(b) || !isKept(to)) {
            return NONE;
        }
        int factor = Math.floorMod(f, PRIME);
        for (int i = 0; i < shape.size; i++) {
            fresh[i] = (kept[a][i] + factor * kept[b][i]) % PRIME;
        }
        return keepFresh(to);
    }

    public int product(int a, int b, int to) {
        if (!isKept(a) || !isKept(b) || !isKept(to)) {
            return NONE;
        }
        if (shape.degreeOf(kept[a]) + shape.degreeOf(kept[b]) > TOP) {
            return CANNOT;
        }
        shape.multiply(kept[a], kept[b], fresh);
        return keepFresh(to);
    }

    // ---- how many there are

    public int series(int degree) {
        return isPower(degree) ? bases.sizes[degree] : NONE;
    }

    public int base(int degree, int row, int to) {
        if (!isPower(degree) || !isKept(to) || row < 0 || row >= bases.sizes[degree]) {
            return NONE;
        }
        Grade grade = bases.grade(degree);
        Arrays.fill(fresh, 0);
        System.arraycopy(grade.rows, grade.many * row, fresh, shape.start[degree], grade.many);
        return keepFresh(to);
    }

    public int isSystem(int a, int b, int c) {
        boolean three = shape.variables == 3;
        if (!isKept(a) || !isKept(b) || three && !isKept(c)) {
            return NONE;
        }
        int third = three ? shape.degreeOf(kept[c]) : 0;
        if (shape.degreeOf(kept[a]) + shape.degreeOf(kept[b]) + third > MOST_DEGREES) {
            return NONE;
        }
        if (!canBeOfSystem(a) || !canBeOfSystem(b) || three && !canBeOfSystem(c)) {
            return 0;
        }
        putForSystem(0, a);
        putForSystem(1, b);
        if (three) {
            putForSystem(2, c);
        }
        return search.isSpanning() ? 1 : 0;
    }

    // ---- primary ones, secondary ones

    public int primary(int k, int what) {
        if (k < 0 || k >= shape.variables || what < 0 || what > 1 || !search.find()) {
            return NONE;
        }
        return what == 0 ? search.degrees[k] : search.rows[k];
    }

    public int secondaries() {
        return findSecondaries() ? rewriter.many : NONE;
    }

    public int secondary(int k, int what) {
        if (k < 0 || what < 0 || what > 1 || !findSecondaries() || k >= rewriter.many) {
            return NONE;
        }
        return what == 0 ? rewriter.degrees[k] : rewriter.rows[k];
    }

    public int numerator(int degree) {
        if (!isPower(degree) || !findSecondaries()) {
            return NONE;
        }
        int many = 0;
        for (int j = 0; j < rewriter.many; j++) {
            if (rewriter.degrees[j] == degree) {
                many++;
            }
        }
        return many;
    }

    // ---- rewritten

    public int rewrite(int k) {
        if (!isKept(k) || !findSecondaries()) {
            return NONE;
        }
        if (!isLeftAlone(kept[k])) {
            return CANNOT;
        }
        rewriter.extend(shape.degreeOf(kept[k]));
        rewriter.tell(kept[k]);
        return rewriter.told;
    }

    public int rewritten(int j, int a, int b, int c) {
        if (rewriter.told < 0 || !isProduct(j, a, b, c)) {
            return NONE;
        }
        int place = rewriter.placeOf(j, a, b, c);
        return place < 0 ? 0 : rewriter.factors[place];
    }

    public int relation(int i, int h, int j, int a, int b, int c) {
        if (!findSecondaries() || !isSecondary(i) || !isSecondary(h) || !isProduct(j, a, b, c)) {
            return NONE;
        }
        int degree = rewriter.degrees[i] + rewriter.degrees[h];
        if (degree > TOP) {
            return CANNOT;
        }
        rewriter.extend(degree);
        rewriter.relate(i, h);
        int place = rewriter.placeOf(j, a, b, c) - shape.start[degree];
        return place < 0 || place >= shape.first[degree + 1] ? 0 : rewriter.related[place];
    }

    public int count(int what) {
        if (what == 0) {
            return taped;
        }
        return what == 1 && rewriter.told >= 0 ? rewriter.told : NONE;
    }

    // ---- what the calls above share

    private void startAgain() {
        mover.begin(shape, members);
        bases.begin(shape, members);
        search.begin(shape, members);
        rewriter.begin(shape);
    }

    private void putBytes(int number) {
        for (int shift = 24; shift >= 0; shift -= 8) {
            tape[taped] = (byte) (number >> shift);
            taped++;
        }
    }

    private static boolean isKept(int k) {
        return k >= 0 && k < KEPT;
    }

    private static boolean isPower(int power) {
        return power >= 0 && power <= TOP;
    }

    private boolean isMember(int g) {
        return g >= 0 && g < members.many;
    }

    private boolean isSecondary(int j) {
        return j >= 0 && j < rewriter.many;
    }

    private boolean isProduct(int j, int a, int b, int c) {
        if (!isSecondary(j) || a < 0 || b < 0 || c < 0) {
            return false;
        }
        return c == 0 || shape.variables == 3;
    }

    private int keepFresh(int to) {
        System.arraycopy(fresh, 0, kept[to], 0, shape.size);
        return shape.termsOf(fresh);
    }

    private boolean isMovedToItself(int[] f, int g) {
        Arrays.fill(fresh, 0);
        mover.use(g);
        mover.addAllMoved(f, fresh);
        for (int i = 0; i < shape.size; i++) {
            if (fresh[i] != f[i]) {
                return false;
            }
        }
        return true;
    }

    // The tables told make all members, so what these leave alone all do.
    private boolean isLeftAlone(int[] f) {
        for (int t = 0; t < members.tables; t++) {
            if (!isMovedToItself(f, members.steps[t])) {
                return false;
            }
        }
        return true;
    }

    // As many members move it to one as to any other, so those that leave it alone tell how many.
    private int unlikeMoved(int[] f) {
        int alone = 0;
        for (int g = 0; g < members.many; g++) {
            if (isMovedToItself(f, g)) {
                alone++;
            }
        }
        return alone == 0 ? members.many : members.many / alone;
    }

    private boolean canBeOfSystem(int k) {
        int[] f = kept[k];
        return shape.degreeOf(f) > 0 && shape.isOneDegree(f) && isLeftAlone(f);
    }

    private void putForSystem(int i, int k) {
        int degree = shape.degreeOf(kept[k]);
        search.pieces[i].put(kept[k], shape.start[degree], degree);
    }

    private boolean findSecondaries() {
        if (!search.find()) {
            return false;
        }
        rewriter.extendToAll();
        return true;
    }

    // ---- numbers

    private static int raise(int number, int power) {
        int result = 1;
        int square = number;
        for (int rest = power; rest > 0; rest >>= 1) {
            if ((rest & 1) == 1) {
                result = result * square % PRIME;
            }
            square = square * square % PRIME;
        }
        return result;
    }

    private static boolean divides(int part, int whole) {
        return part > 0 && whole % part == 0;
    }

    private static int minor(int a, int b, int c, int d) {
        return Math.floorMod(a * d - b * c, PRIME);
    }

    private static int determinant(int[] m, int at, int wide) {
        if (wide == 2) {
            return minor(m[at], m[at + 1], m[at + 2], m[at + 3]);
        }
        int first = m[at] * minor(m[at + 4], m[at + 5], m[at + 7], m[at + 8]);
        int second = m[at + 1] * minor(m[at + 3], m[at + 5], m[at + 6], m[at + 8]);
        int third = m[at + 2] * minor(m[at + 3], m[at + 4], m[at + 6], m[at + 7]);
        return Math.floorMod(first - second + third, PRIME);
    }

    // A row that is too short grows at least twofold, so that all rows ever made stay few.
    private static int[] withRoom(int[] row, int need, int most) {
        if (row.length >= need) {
            return row;
        }
        return new int[Math.max(need, Math.min(most, 2 * row.length))];
    }

    /** A part of one degree within a row of factors. */
    private static final class Piece {
        int[] row = new int[1];
        int at;
        int degree;

        void put(int[] newRow, int newAt, int newDegree) {
            row = newRow;
            at = newAt;
            degree = newDegree;
        }
    }

    /**
     * Where monomials stand in a row of factors: degree by degree, and within a degree in blocks
     * of those with equally many factors that are not x (with three variables by the power of z).
     */
    private static final class Shape {
        final int variables;
        final int size;
        // first[s]: where block s starts within each degree; so first[d + 1] monomials have degree d.
        final int[] first = new int[MOST_DEGREES + 1];
        final int[] start = new int[GRADES + 1];
        // By place within a degree: its block, and how many stand in that block.
        final int[] block;
        final int[] wide;
        private final Piece left = new Piece();
        private final Piece right = new Piece();

        Shape(int variables) {
            this.variables = variables;
            for (int s = 0; s < MOST_DEGREES; s++) {
                first[s + 1] = first[s] + (variables == 3 ? s + 1 : 1);
            }
            for (int degree = 0; degree < GRADES; degree++) {
                start[degree + 1] = start[degree] + first[degree + 1];
            }
            size = start[GRADES];
            block = new int[first[GRADES]];
            wide = new int[first[GRADES]];
            for (int s = 0; s < GRADES; s++) {
                for (int place = first[s]; place < first[s + 1]; place++) {
                    block[place] = s;
                    wide[place] = first[s + 1] - first[s];
                }
            }
        }

        int power(int degree, int place, int variable) {
            int s = block[place];
            int last = place - first[s];
            if (variable == 0) {
                return degree - s;
            }
            return variable == 1 ? s - last : last;
        }

        boolean isZero(int[] f, int degree) {
            for (int i = start[degree]; i < start[degree + 1]; i++) {
                if (f[i] != 0) {
                    return false;
                }
            }
            return true;
        }

        int degreeOf(int[] f) {
            int last = size - 1;
            while (last > 0 && f[last] == 0) {
                last--;
            }
            int degree = TOP;
            while (degree > 0 && start[degree] > last) {
                degree--;
            }
            return degree;
        }

        int termsOf(int[] f) {
            int terms = 0;
            for (int i = 0; i < size; i++) {
                if (f[i] != 0) {
                    terms++;
                }
            }
            return terms;
        }

        boolean isOneDegree(int[] f) {
            int degrees = 0;
            for (int degree = 0; degree <= TOP; degree++) {
                if (!isZero(f, degree)) {
                    degrees++;
                }
            }
            return degrees <= 1;
        }

        // Not reduced: no monomial up to degree 15 has more than 216 parts, whose products fit an int.
        void addProduct(Piece f, Piece g, int[] out, int at) {
            for (int i = 0; i < first[f.degree + 1]; i++) {
                int factor = f.row[f.at + i];
                if (factor == 0) {
                    continue;
                }
                int s = block[i];
                int last = i - first[s];
                for (int t = 0; t <= g.degree; t++) {
                    int from = g.at + first[t];
                    int to = at + first[s + t] + last;
                    int many = first[t + 1] - first[t];
                    for (int j = 0; j < many; j++) {
                        out[to + j] += factor * g.row[from + j];
                    }
                }
            }
        }

        void multiply(int[] f, int[] g, int[] out) {
            Arrays.fill(out, 0, size, 0);
            int topF = degreeOf(f);
            int topG = degreeOf(g);
            for (int p = 0; p <= topF; p++) {
                left.put(f, start[p], p);
                for (int q = 0; q <= topG && p + q <= TOP; q++) {
                    right.put(g, start[q], q);
                    addProduct(left, right, out, start[p + q]);
                }
            }
            for (int i = 0; i < size; i++) {
                out[i] %= PRIME;
            }
        }
    }

    /** Parts a text into tokens, notes its first fault, and reads tables. */
    private static final class Reader {
        static final int END = 0;
        static final int BAD = 1;
        static final int DIGITS = 2;
        static final int MOST_DIGITS = 4;

        private final byte[] text;
        private final int[] firsts = new int[MOST_TABLES];
        private int length;
        private int next;
        private int place;
        // The token now: END, BAD, DIGITS, or the sign itself.
        int kind;
        int value;
        int digits;
        // 8 * place + kind of the first fault; 0 there is none.
        int fault;

        Reader(byte[] text) {
            this.text = text;
        }

        void open(int newLength) {
            length = newLength;
            next = 0;
            fault = 0;
            advance();
        }

        void advance() {
            while (next < length && (text[next] == 32 || text[next] == 10)) {
                next++;
            }
            place = next;
            if (next >= length) {
                kind = END;
            } else if (isDigit(text[next])) {
                takeDigits();
            } else {
                kind = isSign(text[next]) ? text[next] : BAD;
                next++;
            }
        }

        boolean refuse(int faultKind) {
            if (fault == 0) {
                fault = 8 * place + faultKind;
            }
            return false;
        }

        private void takeDigits() {
            kind = DIGITS;
            value = 0;
            digits = 0;
            while (next < length && isDigit(text[next])) {
                if (digits < MOST_DIGITS) {
                    value = 10 * value + text[next] - '0';
                }
                digits++;
                next++;
            }
        }

        private static boolean isDigit(int sign) {
            return sign >= '0' && sign <= '9';
        }

        private static boolean isSign(int sign) {
            switch (sign) {
                case 'x':
                case 'y':
                case 'z':
                case ';':
                case '/':
                case '-':
                case '+':
                case '*':
                case '^':
                case '(':
                case ')':
                    return true;
                default:
                    return false;
            }
        }

        boolean readTables(Members into) {
            into.variables = 0;
            for (int t = 0; t < MOST_TABLES; t++) {
                firsts[t] = place;
                if (!readTable(into, t)) {
                    return false;
                }
                into.tables = t + 1;
                if (kind == END) {
                    return haveInverses(into);
                }
                if (kind != ';') {
                    return refuse(1);
                }
                if (t + 1 == MOST_TABLES) {
                    return refuse(2);
                }
                advance();
            }
            return false;
        }

        private boolean readTable(Members into, int t) {
            if (!readRow(into, t, 0)) {
                return false;
            }
            for (int row = 1; row < into.variables; row++) {
                if (kind != '/') {
                    return refuse(1);
                }
                advance();
                if (!readRow(into, t, row)) {
                    return false;
                }
            }
            return true;
        }

        // The very first row tells how many variables there are: 0 stands for not told yet.
        private boolean readRow(Members into, int t, int row) {
            int wide = into.variables == 0 ? 3 : into.variables;
            for (int column = 0; column < wide; column++) {
                if (into.variables == 0 && column == 2 && kind != DIGITS && kind != '-') {
                    into.variables = 2;
                    return true;
                }
                boolean below = kind == '-';
                if (below) {
                    advance();
                }
                if (kind != DIGITS || digits > MOST_DIGITS) {
                    return refuse(1);
                }
                int number = below ? -value : value;
                into.told[CELLS * t + wide * row + column] = Math.floorMod(number, PRIME);
                advance();
            }
            into.variables = wide;
            return true;
        }

        private boolean haveInverses(Members into) {
            for (int t = 0; t < into.tables; t++) {
                if (determinant(into.told, CELLS * t, into.variables) == 0) {
                    fault = 8 * firsts[t] + 3;
                    return false;
                }
            }
            return true;
        }
    }

    /** Reads a polynomial and works it out, level by level of its brackets. */
    private static final class SumReader {
        private static final int LEVELS = MOST_OPEN + 1;

        private final Reader reader;
        private Shape shape;
        // Rows for each level's sum, for each level's product, and three for parts and powers.
        private int[][] rows = new int[0][0];
        private int part;
        private int other;
        private int result;
        // Once a degree is too high nothing is worked out any more, but faults are still looked for.
        private boolean tooHigh;

        SumReader(Reader reader) {
            this.reader = reader;
        }

        int[] readAll(Shape newShape) {
            shape = newShape;
            if (rows.length == 0 || rows[0].length < shape.size) {
                rows = new int[2 * LEVELS + 3][shape.size];
            }
            part = 2 * LEVELS;
            other = part + 1;
            result = part + 2;
            tooHigh = false;
            if (readSum(0) && reader.kind != Reader.END) {
                reader.refuse(1);
            }
            if (reader.fault == 0 && tooHigh) {
                reader.fault = 3;
            }
            return rows[0];
        }

        private boolean readSum(int level) {
            Arrays.fill(rows[level], 0);
            boolean below = reader.kind == '-';
            if (below) {
                reader.advance();
            }
            for (int i = 0; i <= TAPE_ROOM; i++) {
                if (!readProduct(level)) {
                    return false;
                }
                add(rows[LEVELS + level], below ? PRIME - 1 : 1, rows[level]);
                if (reader.kind != '+' && reader.kind != '-') {
                    return true;
                }
                below = reader.kind == '-';
                reader.advance();
            }
            return false;
        }

        private boolean readProduct(int level) {
            int product = LEVELS + level;
            for (int i = 0; i <= TAPE_ROOM; i++) {
                if (!readPower(level)) {
                    return false;
                }
                if (i == 0) {
                    System.arraycopy(rows[part], 0, rows[product], 0, shape.size);
                } else {
                    multiplyBy(product);
                }
                if (reader.kind != '*') {
                    return true;
                }
                reader.advance();
            }
            return false;
        }

        private boolean readPower(int level) {
            if (!readPart(level)) {
                return false;
            }
            if (reader.kind != '^') {
                return true;
            }
            reader.advance();
            if (reader.kind != Reader.DIGITS || reader.digits > 2) {
                return reader.refuse(1);
            }
            if (reader.value > TOP) {
                return reader.refuse(2);
            }
            raisePart(reader.value);
            reader.advance();
            return true;
        }

        private boolean readPart(int level) {
            int kind = reader.kind;
            if (kind == '(') {
                return readBracket(level);
            }
            if (kind == Reader.DIGITS && reader.digits <= Reader.MOST_DIGITS) {
                putPart(0, reader.value % PRIME);
            } else if (kind == 'x') {
                putPart(shape.start[1], 1);
            } else if (kind == 'y') {
                putPart(shape.start[1] + 1, 1);
            } else if (kind == 'z' && shape.variables == 3) {
                putPart(shape.start[1] + 2, 1);
            } else {
                return reader.refuse(1);
            }
            reader.advance();
            return true;
        }

        private boolean readBracket(int level) {
            if (level == MOST_OPEN) {
                return reader.refuse(2);
            }
            reader.advance();
            if (!readSum(level + 1)) {
                return false;
            }
            if (reader.kind != ')') {
                return reader.refuse(1);
            }
            System.arraycopy(rows[level + 1], 0, rows[part], 0, shape.size);
            reader.advance();
            return true;
        }

        private void putPart(int place, int factor) {
            Arrays.fill(rows[part], 0);
            rows[part][place] = factor;
        }

        private void add(int[] f, int factor, int[] to) {
            for (int i = 0; i < shape.size; i++) {
                to[i] = (to[i] + factor * f[i]) % PRIME;
            }
        }

        private void multiplyBy(int product) {
            if (shape.degreeOf(rows[product]) + shape.degreeOf(rows[part]) > TOP) {
                tooHigh = true;
            }
            if (!tooHigh) {
                shape.multiply(rows[product], rows[part], rows[result]);
                System.arraycopy(rows[result], 0, rows[product], 0, shape.size);
            }
        }

        private void raisePart(int power) {
            if (shape.degreeOf(rows[part]) * power > TOP) {
                tooHigh = true;
            }
            if (tooHigh) {
                return;
            }
            Arrays.fill(rows[result], 0);
            rows[result][0] = 1;
            for (int i = 0; i < power; i++) {
                int before = result;
                result = other;
                other = before;
                shape.multiply(rows[part], rows[other], rows[result]);
            }
            int raised = result;
            result = part;
            part = raised;
        }
    }

    /** The members of a group, with their products. */
    private static final class Members {
        int variables = 2;
        int tables;
        int many;
        final int[] told = new int[CELLS * MOST_TABLES];
        final int[] cells = new int[CELLS * MOST_MEMBERS];
        // Which member a member times a table told is.
        final int[] steps = new int[MOST_TABLES * MOST_MEMBERS];
        final int[] products = new int[MOST_MEMBERS * MOST_MEMBERS];
        final int[] inverses = new int[MOST_MEMBERS];
        final int[] orders = new int[MOST_MEMBERS];
        // Each member but the first came as a member times a table.
        private final int[] cameFrom = new int[MOST_MEMBERS];
        private final int[] cameBy = new int[MOST_MEMBERS];
        private final int[] candidate = new int[CELLS];

        // Answers false if there are too many.
        boolean grow() {
            Arrays.fill(cells, 0, CELLS, 0);
            for (int i = 0; i < variables; i++) {
                cells[variables * i + i] = 1;
            }
            many = 1;
            for (int g = 0; g < many && g < MOST_MEMBERS; g++) {
                for (int t = 0; t < tables; t++) {
                    multiplyByTable(g, t);
                    int found = findCandidate();
                    if (found == many) {
                        if (many == MOST_MEMBERS) {
                            return false;
                        }
                        System.arraycopy(candidate, 0, cells, CELLS * many, CELLS);
                        cameFrom[many] = g;
                        cameBy[many] = t;
                        many++;
                    }
                    steps[MOST_TABLES * g + t] = found;
                }
            }
            fillProducts();
            fillOrders();
            return true;
        }

        private void multiplyByTable(int g, int t) {
            for (int row = 0; row < variables; row++) {
                for (int column = 0; column < variables; column++) {
                    int sum = 0;
                    for (int i = 0; i < variables; i++) {
                        int left = cells[CELLS * g + variables * row + i];
                        sum += left * told[CELLS * t + variables * i + column];
                    }
                    candidate[variables * row + column] = sum % PRIME;
                }
            }
        }

        // How many members there are, if it is none of them.
        private int findCandidate() {
            for (int g = 0; g < many; g++) {
                int alike = 0;
                while (alike < variables * variables && cells[CELLS * g + alike] == candidate[alike]) {
                    alike++;
                }
                if (alike == variables * variables) {
                    return g;
                }
            }
            return many;
        }

        private void fillProducts() {
            for (int g = 0; g < many; g++) {
                int at = MOST_MEMBERS * g;
                products[at] = g;
                for (int h = 1; h < many; h++) {
                    products[at + h] = steps[MOST_TABLES * products[at + cameFrom[h]] + cameBy[h]];
                }
            }
        }

        private void fillOrders() {
            for (int g = 0; g < many; g++) {
                int power = g;
                int before = 0;
                int order = 1;
                while (power != 0 && order < many) {
                    before = power;
                    power = products[MOST_MEMBERS * power + g];
                    order++;
                }
                orders[g] = order;
                inverses[g] = before;
            }
        }

        int lots() {
            int lots = 0;
            for (int g = 0; g < many; g++) {
                if (isFirstOfLot(g)) {
                    lots++;
                }
            }
            return lots;
        }

        private boolean isFirstOfLot(int g) {
            for (int h = 0; h < many; h++) {
                int half = products[MOST_MEMBERS * inverses[h] + g];
                if (products[MOST_MEMBERS * half + h] < g) {
                    return false;
                }
            }
            return true;
        }

        int commonPower() {
            for (int power = 1; power < many; power++) {
                int fitting = 0;
                while (fitting < many && divides(orders[fitting], power)) {
                    fitting++;
                }
                if (fitting == many) {
                    return power;
                }
            }
            return many;
        }

        boolean isEitherOrder() {
            for (int g = 0; g < many; g++) {
                for (int h = 0; h < g; h++) {
                    if (products[MOST_MEMBERS * g + h] != products[MOST_MEMBERS * h + g]) {
                        return false;
                    }
                }
            }
            return true;
        }

        int trace(int g) {
            int sum = 0;
            for (int i = 0; i < variables; i++) {
                sum += cells[CELLS * g + variables * i + i];
            }
            return sum % PRIME;
        }

        // The second of the numbers of which trace is the first and determinant the last.
        int middle(int g) {
            int at = CELLS * g;
            int sum = minor(cells[at], cells[at + 1], cells[at + variables], cells[at + variables + 1]);
            if (variables == 3) {
                sum += minor(cells[at], cells[at + 2], cells[at + 6], cells[at + 8]);
                sum += minor(cells[at + 4], cells[at + 5], cells[at + 7], cells[at + 8]);
            }
            return sum % PRIME;
        }
    }

    /** Moves polynomials by a member. */
    private static final class Mover {
        private Shape shape;
        private Members members;
        // Row i: what stands in place of the i-th variable; with two variables z stays z.
        private final int[] forms = new int[CELLS];
        // Each variable becomes a number times one variable: then monomials become monomials.
        private boolean straight;
        private final int[] target = new int[3];
        private final int[] scale = new int[3];
        private final int[] powers = new int[3];
        private final int[] outer = new int[MONOMIALS_OF_TOP];
        private final int[] inner = new int[MONOMIALS_OF_TOP];
        // Powers of the last variable's form, as far as they have been needed, each at its degree's start.
        private final int[] lastPowers = new int[MONOMIALS_OF_ALL];
        private int lastTop;
        private final Piece part = new Piece();

        void begin(Shape newShape, Members newMembers) {
            shape = newShape;
            members = newMembers;
        }

        void use(int g) {
            int wide = shape.variables;
            straight = true;
            for (int row = 0; row < 3; row++) {
                int filled = 0;
                for (int column = 0; column < 3; column++) {
                    int cell = row == column ? 1 : 0;
                    if (wide == 3 || row < 2 && column < 2) {
                        cell = members.cells[CELLS * g + wide * row + column];
                    }
                    forms[3 * row + column] = cell;
                    if (cell != 0) {
                        filled++;
                        target[row] = column;
                        scale[row] = cell;
                    }
                }
                straight = straight && filled == 1;
            }
            lastPowers[0] = 1;
            lastTop = 0;
        }

        void addAllMoved(int[] f, int[] out) {
            for (int degree = 0; degree <= TOP; degree++) {
                if (!shape.isZero(f, degree)) {
                    part.put(f, shape.start[degree], degree);
                    addMoved(part, out, shape.start[degree]);
                }
            }
        }

        void addMoved(Piece f, int[] out, int at) {
            if (straight) {
                addStraight(f, out, at);
                return;
            }
            growLastPowers(f);
            boolean any = false;
            for (int s = 0; s <= f.degree; s++) {
                if (any) {
                    timesForm(outer, 0, s - 1, 0);
                }
                if (!moveBlock(f, s)) {
                    continue;
                }
                if (!any) {
                    Arrays.fill(outer, 0);
                    any = true;
                }
                for (int i = 0; i < shape.first[s + 1]; i++) {
                    outer[i] = (outer[i] + inner[i]) % PRIME;
                }
            }
            if (any) {
                for (int i = 0; i < shape.first[f.degree + 1]; i++) {
                    out[at + i] += outer[i];
                }
            }
        }

        private void addStraight(Piece f, int[] out, int at) {
            int[] first = shape.first;
            for (int i = 0; i < first[f.degree + 1]; i++) {
                int factor = f.row[f.at + i];
                if (factor == 0) {
                    continue;
                }
                int s = shape.block[i];
                int last = i - first[s];
                powers[target[0]] = f.degree - s;
                powers[target[1]] = s - last;
                powers[target[2]] = last;
                factor = factor * raise(scale[0], f.degree - s) % PRIME;
                factor = factor * raise(scale[1], s - last) % PRIME;
                factor = factor * raise(scale[2], last) % PRIME;
                out[at + first[f.degree - powers[0]] + powers[2]] += factor;
            }
        }

        private void growLastPowers(Piece f) {
            int need = 0;
            for (int i = 0; i < shape.first[f.degree + 1]; i++) {
                if (f.row[f.at + i] != 0) {
                    int s = shape.block[i];
                    need = Math.max(need, shape.variables == 3 ? i - shape.first[s] : s);
                }
            }
            for (int power = lastTop; power < need; power++) {
                int from = shape.start[power];
                int to = shape.start[power + 1];
                System.arraycopy(lastPowers, from, lastPowers, to, to - from);
                timesForm(lastPowers, to, power, shape.variables - 1);
            }
            lastTop = Math.max(lastTop, need);
        }

        // Puts into inner what the monomials of block s, without their x, are moved to.
        private boolean moveBlock(Piece f, int s) {
            int least = shape.variables == 3 ? 0 : s;
            boolean any = false;
            for (int power = least; power <= s; power++) {
                if (any) {
                    timesForm(inner, 0, power - 1, 1);
                }
                int factor = f.row[f.at + shape.first[s] + power - least];
                if (factor == 0) {
                    continue;
                }
                if (!any) {
                    Arrays.fill(inner, 0);
                    any = true;
                }
                int from = shape.start[power];
                for (int i = 0; i < shape.first[power + 1]; i++) {
                    inner[i] = (inner[i] + factor * lastPowers[from + i]) % PRIME;
                }
            }
            return any;
        }

        // In its own place, from behind: what a monomial adds to others stands behind it.
        private void timesForm(int[] f, int at, int degree, int row) {
            int many = shape.first[degree + 1];
            int after = shape.first[degree + 2];
            int x = forms[3 * row];
            int y = forms[3 * row + 1];
            int z = forms[3 * row + 2];
            Arrays.fill(f, at + many, at + after, 0);
            for (int i = many - 1; i >= 0; i--) {
                int factor = f[at + i];
                if (factor == 0) {
                    continue;
                }
                int behind = at + i + shape.wide[i];
                f[at + i] = x * factor;
                f[behind] += y * factor;
                if (z != 0) {
                    f[behind + 1] += z * factor;
                }
            }
            for (int i = at; i < at + after; i++) {
                f[i] %= PRIME;
            }
        }
    }

    /** Rows of numbers in steps: each has a 1 in a column ahead of which it has only 0. */
    private static final class Echelon {
        private static final int MOST_COLUMNS = 153;

        private int columns;
        int rank;
        int[] rows = new int[0];
        // Which row has its first number in a column; -1 none has.
        final int[] rowAt = new int[MOST_COLUMNS];

        void begin(int newColumns, boolean small) {
            columns = newColumns;
            rank = 0;
            Arrays.fill(rowAt, -1);
            int most = small ? MOST_DEGREES * MOST_DEGREES : MOST_COLUMNS * MOST_COLUMNS;
            rows = withRoom(rows, most, most);
        }

        // Sums stay unreduced till their column's turn: 153 products of two numbers fit an int.
        void insert(int[] row) {
            int column = 0;
            while (column < columns && (row[column] % PRIME == 0 || rowAt[column] >= 0)) {
                int number = row[column] % PRIME;
                if (number != 0) {
                    subtract(rowAt[column], PRIME - number, row, 0, column);
                }
                column++;
            }
            if (column == columns) {
                return;
            }
            int at = columns * rank;
            int part = raise(row[column] % PRIME, TO_INVERT);
            Arrays.fill(rows, at, at + column, 0);
            for (int i = column; i < columns; i++) {
                rows[at + i] = row[i] % PRIME * part % PRIME;
            }
            rowAt[column] = rank;
            rank++;
        }

        private void subtract(int which, int factor, int[] from, int at, int column) {
            int start = columns * which;
            from[at + column] = 0;
            for (int i = column + 1; i < columns; i++) {
                from[at + i] += factor * rows[start + i];
            }
        }

        // Makes the columns of first numbers 0 in all other rows, the hindmost row first.
        void finish() {
            for (int column = columns - 1; column >= 0; column--) {
                if (rowAt[column] >= 0) {
                    finishRow(columns * rowAt[column], column);
                }
            }
        }

        private void finishRow(int at, int column) {
            for (int i = column + 1; i < columns; i++) {
                int number = rows[at + i] % PRIME;
                rows[at + i] = number;
                if (number != 0 && rowAt[i] >= 0) {
                    subtract(rowAt[i], PRIME - number, rows, at, i);
                }
            }
        }
    }

    /**
     * What there is of one degree: the rows of the base, and as many products of primary ones with
     * one secondary one, held so that what is left alone can be parted into them.
     */
    private static final class Grade {
        final int degree;
        boolean known;
        int many;
        int size;
        int[] rows = new int[0];
        // The columns of the rows' first numbers: there a polynomial's factors tell its parts.
        int[] heads = new int[0];
        int made;
        int[] products = new int[0];
        // Four numbers for each product: its secondary one, then the powers of primary ones.
        int[] labels = new int[0];
        // Products by rows as lower times upper triangle, columns turned so that no corner is 0.
        private int[] triangles = new int[0];
        private int[] order = new int[0];

        Grade(int degree) {
            this.degree = degree;
        }

        void beginBase(int newMany, int newSize) {
            many = newMany;
            size = newSize;
            rows = withRoom(rows, many * size, many * many);
            heads = withRoom(heads, size, many);
        }

        void takeBase(Echelon echelon) {
            int row = 0;
            for (int column = 0; column < many && row < size; column++) {
                if (echelon.rowAt[column] >= 0) {
                    int from = many * echelon.rowAt[column];
                    System.arraycopy(echelon.rows, from, rows, many * row, many);
                    heads[row] = column;
                    row++;
                }
            }
        }

        void beginProducts() {
            made = 0;
            products = withRoom(products, many * size, many * many);
            labels = withRoom(labels, 4 * size, 4 * many);
            triangles = withRoom(triangles, size * size, many * many);
            order = withRoom(order, size, many);
            for (int i = 0; i < size; i++) {
                order[i] = i;
            }
        }

        // The parts by rows of the base, in turned order, of what stands from a place on.
        void takeParts(int[] f, int at, int[] parts) {
            for (int i = 0; i < size; i++) {
                parts[i] = f[at + heads[order[i]]];
            }
        }

        // Takes parts as one product more, if it is no sum of those there are.
        boolean insert(int[] parts) {
            for (int k = 0; k < made; k++) {
                clearBehind(parts, k);
            }
            int lead = made;
            while (lead < size && parts[lead] % PRIME == 0) {
                lead++;
            }
            if (lead >= size) {
                return false;
            }
            turn(made, lead);
            int pivot = parts[lead] % PRIME;
            parts[lead] = parts[made];
            int part = raise(pivot, TO_INVERT);
            int at = size * made;
            for (int i = 0; i < made; i++) {
                triangles[at + i] = parts[i];
            }
            triangles[at + made] = pivot;
            for (int i = made + 1; i < size; i++) {
                triangles[at + i] = parts[i] % PRIME * part % PRIME;
            }
            made++;
            return true;
        }

        private void clearBehind(int[] parts, int k) {
            int number = parts[k] % PRIME;
            parts[k] = number;
            if (number != 0) {
                int at = size * k;
                for (int i = k + 1; i < size; i++) {
                    parts[i] += (PRIME - number) * triangles[at + i];
                }
            }
        }

        private void turn(int a, int b) {
            int column = order[a];
            order[a] = order[b];
            order[b] = column;
            for (int k = 0; k < made; k++) {
                int number = triangles[size * k + a];
                triangles[size * k + a] = triangles[size * k + b];
                triangles[size * k + b] = number;
            }
        }

        // From parts by rows of the base to factors of products.
        void solve(int[] parts) {
            for (int k = 0; k < made; k++) {
                clearBehind(parts, k);
            }
            for (int i = made - 1; i >= 0; i--) {
                int at = size * i;
                int factor = parts[i] % PRIME * raise(triangles[at + i], TO_INVERT) % PRIME;
                parts[i] = factor;
                for (int k = 0; k < i; k++) {
                    parts[k] += (PRIME - factor) * triangles[at + k];
                }
            }
        }

        void label(int which, int j, int a, int b, int c) {
            labels[4 * which] = j;
            labels[4 * which + 1] = a;
            labels[4 * which + 2] = b;
            labels[4 * which + 3] = c;
        }

        int productOf(int j, int a, int b, int c) {
            for (int i = 0; i < made; i++) {
                int at = 4 * i;
                if (labels[at] == j && labels[at + 1] == a && labels[at + 2] == b && labels[at + 3] == c) {
                    return i;
                }
            }
            return NONE;
        }
    }

    /** The bases of all degrees, made as they are needed. */
    private static final class Bases {
        private final Mover mover;
        private final Echelon echelon;
        private Shape shape;
        private Members members;
        final int[] sizes = new int[GRADES];
        // Those of them that are known have been asked for by grade().
        final Grade[] grades = new Grade[GRADES];
        private final int[] monomial = new int[MONOMIALS_OF_TOP];
        private final int[] sum = new int[MONOMIALS_OF_TOP];
        private final Piece piece = new Piece();

        Bases(Mover mover, Echelon echelon) {
            this.mover = mover;
            this.echelon = echelon;
            for (int degree = 0; degree < GRADES; degree++) {
                grades[degree] = new Grade(degree);
            }
        }

        void begin(Shape newShape, Members newMembers) {
            shape = newShape;
            members = newMembers;
            for (int degree = 0; degree < GRADES; degree++) {
                grades[degree].known = false;
            }
            fillSizes();
        }

        // Averaging keeps what it answers, so the sum of its corner numbers tells how much that is.
        private void fillSizes() {
            Arrays.fill(sizes, 0);
            for (int g = 0; g < members.many; g++) {
                int a = members.trace(g);
                int b = PRIME - members.middle(g);
                int c = shape.variables == 3 ? determinant(members.cells, CELLS * g, 3) : 0;
                int one = 1;
                int two = 0;
                int three = 0;
                sizes[0] += 1;
                for (int degree = 1; degree < GRADES; degree++) {
                    int next = (a * one + b * two + c * three) % PRIME;
                    three = two;
                    two = one;
                    one = next;
                    sizes[degree] += next;
                }
            }
            int part = raise(members.many, TO_INVERT);
            for (int degree = 0; degree < GRADES; degree++) {
                int size = sizes[degree] % PRIME * part % PRIME;
                sizes[degree] = Math.min(size, shape.first[degree + 1]);
            }
        }

        Grade grade(int degree) {
            Grade grade = grades[degree];
            if (!grade.known) {
                build(grade);
            }
            return grade;
        }

        private void build(Grade grade) {
            int degree = grade.degree;
            int many = shape.first[degree + 1];
            grade.beginBase(many, sizes[degree]);
            echelon.begin(many, shape.variables == 2);
            piece.put(monomial, 0, degree);
            for (int i = 0; i < many && echelon.rank < grade.size; i++) {
                Arrays.fill(sum, 0);
                monomial[i] = 1;
                for (int g = 0; g < members.many; g++) {
                    mover.use(g);
                    mover.addMoved(piece, sum, 0);
                }
                monomial[i] = 0;
                echelon.insert(sum);
            }
            echelon.finish();
            grade.takeBase(echelon);
            grade.known = true;
        }
    }

    /** Tells what is a system, and looks for the primary ones. */
    private static final class PrimarySearch {
        private static final int MOST_ROWS = 83;
        private static final int MOST_PRODUCT = TOP_PRIMARY * TOP_PRIMARY * TOP_PRIMARY;

        private final Bases bases;
        private final Echelon echelon;
        private Shape shape;
        private int members;
        private boolean searched;
        private boolean found;
        private int asked;
        // All rows of bases of degrees 1 to 6, by degree, then number.
        private int candidates;
        private final int[] candidateDegrees = new int[MOST_ROWS];
        private final int[] candidateRows = new int[MOST_ROWS];
        private final int[] spread = new int[Echelon.MOST_COLUMNS];
        final Piece[] pieces = new Piece[3];
        final int[] degrees = new int[3];
        final int[] rows = new int[3];

        PrimarySearch(Bases bases, Echelon echelon) {
            this.bases = bases;
            this.echelon = echelon;
            for (int i = 0; i < 3; i++) {
                pieces[i] = new Piece();
            }
        }

        void begin(Shape newShape, Members newMembers) {
            shape = newShape;
            members = newMembers.many;
            searched = false;
            found = false;
        }

        boolean find() {
            if (searched) {
                return found;
            }
            searched = true;
            asked = 0;
            candidates = 0;
            for (int degree = 1; degree <= TOP_PRIMARY; degree++) {
                addCandidates(bases.grade(degree));
            }
            for (int goal = 1; goal <= MOST_PRODUCT && !found && asked < MOST_ASKED; goal++) {
                if (divides(members, goal)) {
                    found = shape.variables == 3 ? tryTriples(goal) : tryPairs(0, goal, 0);
                }
            }
            return found;
        }

        private void addCandidates(Grade grade) {
            for (int row = 0; row < grade.size && candidates < MOST_ROWS; row++) {
                candidateDegrees[candidates] = grade.degree;
                candidateRows[candidates] = row;
                candidates++;
            }
        }

        private boolean tryTriples(int goal) {
            for (int i = 0; i < candidates && asked < MOST_ASKED; i++) {
                if (divides(candidateDegrees[i], goal)) {
                    choose(0, i);
                    if (tryPairs(i + 1, goal / candidateDegrees[i], 1)) {
                        return true;
                    }
                }
            }
            return false;
        }

        private boolean tryPairs(int from, int goal, int which) {
            for (int i = from; i < candidates; i++) {
                if (!divides(candidateDegrees[i], goal)) {
                    continue;
                }
                int last = goal / candidateDegrees[i];
                choose(which, i);
                for (int j = i + 1; j < candidates; j++) {
                    if (candidateDegrees[j] != last) {
                        continue;
                    }
                    if (asked == MOST_ASKED) {
                        return false;
                    }
                    asked++;
                    choose(which + 1, j);
                    if (isSpanning()) {
                        return true;
                    }
                }
            }
            return false;
        }

        private void choose(int which, int candidate) {
            degrees[which] = candidateDegrees[candidate];
            rows[which] = candidateRows[candidate];
            Grade grade = bases.grades[degrees[which]];
            pieces[which].put(grade.rows, grade.many * rows[which], grade.degree);
        }

        // Of the pieces, each of one degree and left alone: whether all monomials are theirs.
        boolean isSpanning() {
            int degree = 1 - shape.variables;
            for (int i = 0; i < shape.variables; i++) {
                degree += pieces[i].degree;
            }
            if (isCornerMissing()) {
                return false;
            }
            int columns = shape.first[degree + 1];
            int left = 0;
            for (int i = 0; i < shape.variables; i++) {
                left += shape.first[degree - pieces[i].degree + 1];
            }
            echelon.begin(columns, shape.variables == 2);
            for (int i = 0; i < shape.variables; i++) {
                int more = shape.first[degree - pieces[i].degree + 1];
                for (int m = 0; m < more && echelon.rank + left >= columns; m++) {
                    putSpread(pieces[i], m);
                    echelon.insert(spread);
                    left--;
                }
            }
            return echelon.rank == columns;
        }

        // No need to ask further if none of them has a power of some one variable.
        private boolean isCornerMissing() {
            for (int variable = 0; variable < shape.variables; variable++) {
                boolean missing = true;
                for (int i = 0; i < shape.variables; i++) {
                    Piece f = pieces[i];
                    int place = variable == 0 ? 0 : shape.first[f.degree];
                    place += variable == 2 ? f.degree : 0;
                    missing = missing && f.row[f.at + place] == 0;
                }
                if (missing) {
                    return true;
                }
            }
            return false;
        }

        // The product with the monomial that stands at m in its own degree.
        private void putSpread(Piece f, int m) {
            int[] first = shape.first;
            int s = shape.block[m];
            int last = m - first[s];
            Arrays.fill(spread, 0);
            for (int i = 0; i < first[f.degree + 1]; i++) {
                int t = shape.block[i];
                spread[first[s + t] + last + i - first[t]] = f.row[f.at + i];
            }
        }
    }

    /** Finds the secondary ones, and rewrites by them and the primary ones. */
    private static final class Rewriter {
        private final Bases bases;
        private final PrimarySearch search;
        private Shape shape;
        // Secondary ones: how many are found, up to which degree products stand.
        int many;
        private int top;
        final int[] degrees = new int[MOST_SECONDARY];
        final int[] rows = new int[MOST_SECONDARY];
        // How many products what is rewritten has; -1 nothing is.
        int told;
        // Factors of products, each degree's from its start on.
        final int[] factors = new int[MONOMIALS_OF_ALL];
        // The last product of two secondary ones that was asked for, and its factors.
        private int relatedLeft;
        private int relatedRight;
        final int[] related = new int[MONOMIALS_OF_TOP];
        private final int[] parts = new int[MONOMIALS_OF_TOP];
        private final int[] sum = new int[MONOMIALS_OF_TOP];
        private final Piece left = new Piece();
        private final Piece right = new Piece();

        Rewriter(Bases bases, PrimarySearch search) {
            this.bases = bases;
            this.search = search;
        }

        void begin(Shape newShape) {
            shape = newShape;
            many = 0;
            top = -1;
            told = NONE;
            relatedLeft = NONE;
            relatedRight = NONE;
        }

        // Secondary ones are as many as the product of degrees by the number of members.
        void extendToAll() {
            int product = 1;
            for (int i = 0; i < shape.variables; i++) {
                product *= search.degrees[i];
            }
            int due = search.members == 0 ? 0 : product / search.members;
            for (int degree = top + 1; degree <= TOP && many < due; degree++) {
                fillGrade(bases.grade(degree));
            }
        }

        void extend(int last) {
            for (int degree = top + 1; degree <= TOP && degree <= last; degree++) {
                fillGrade(bases.grade(degree));
            }
        }

        private void fillGrade(Grade grade) {
            grade.beginProducts();
            for (int t = 0; t < shape.variables; t++) {
                if (search.degrees[t] <= grade.degree) {
                    addProducts(grade, t);
                }
            }
            addSecondaries(grade);
            top = grade.degree;
        }

        // Each product comes once: from that with one less of its last primary one.
        private void addProducts(Grade grade, int t) {
            Grade lower = bases.grades[grade.degree - search.degrees[t]];
            Grade home = bases.grades[search.degrees[t]];
            left.put(home.rows, home.many * search.rows[t], home.degree);
            for (int i = 0; i < lower.made && grade.made < grade.size; i++) {
                int at = 4 * i;
                int b = lower.labels[at + 2];
                int c = lower.labels[at + 3];
                if (t < 1 && b > 0 || t < 2 && c > 0) {
                    continue;
                }
                right.put(lower.products, lower.many * i, lower.degree);
                putSum(grade);
                grade.takeParts(sum, 0, parts);
                if (grade.insert(parts)) {
                    int last = grade.made - 1;
                    int a = lower.labels[at + 1] + (t == 0 ? 1 : 0);
                    grade.label(last, lower.labels[at], a, b + (t == 1 ? 1 : 0), c + (t == 2 ? 1 : 0));
                    System.arraycopy(sum, 0, grade.products, grade.many * last, grade.many);
                }
            }
        }

        private void putSum(Grade grade) {
            Arrays.fill(sum, 0);
            shape.addProduct(left, right, sum, 0);
            for (int i = 0; i < grade.many; i++) {
                sum[i] %= PRIME;
            }
        }

        private void addSecondaries(Grade grade) {
            for (int row = 0; row < grade.size && grade.made < grade.size; row++) {
                int from = grade.many * row;
                grade.takeParts(grade.rows, from, parts);
                if (many < MOST_SECONDARY && grade.insert(parts)) {
                    int last = grade.made - 1;
                    grade.label(last, many, 0, 0, 0);
                    System.arraycopy(grade.rows, from, grade.products, grade.many * last, grade.many);
                    degrees[many] = grade.degree;
                    rows[many] = row;
                    many++;
                }
            }
        }

        // Of one left alone, up to whose degree products stand.
        void tell(int[] f) {
            Arrays.fill(factors, 0);
            for (int degree = 0; degree <= top; degree++) {
                if (!shape.isZero(f, degree)) {
                    Grade grade = bases.grades[degree];
                    grade.takeParts(f, shape.start[degree], parts);
                    grade.solve(parts);
                    System.arraycopy(parts, 0, factors, shape.start[degree], grade.size);
                }
            }
            told = shape.termsOf(factors);
        }

        // Of two whose degrees together are not above those up to which products stand.
        void relate(int i, int h) {
            if (relatedLeft == i && relatedRight == h) {
                return;
            }
            Grade one = bases.grades[degrees[i]];
            Grade two = bases.grades[degrees[h]];
            Grade grade = bases.grades[degrees[i] + degrees[h]];
            left.put(one.rows, one.many * rows[i], one.degree);
            right.put(two.rows, two.many * rows[h], two.degree);
            putSum(grade);
            grade.takeParts(sum, 0, parts);
            grade.solve(parts);
            Arrays.fill(related, 0);
            System.arraycopy(parts, 0, related, 0, grade.size);
            relatedLeft = i;
            relatedRight = h;
        }

        // Where factors have that of a product; below 0 if its degree is above those that stand.
        int placeOf(int j, int a, int b, int c) {
            long degree = degrees[j] + (long) a * search.degrees[0] + (long) b * search.degrees[1];
            degree += shape.variables == 3 ? (long) c * search.degrees[2] : 0;
            if (degree > top) {
                return NONE;
            }
            int place = bases.grades[(int) degree].productOf(j, a, b, c);
            return place < 0 ? NONE : shape.start[(int) degree] + place;
        }
    }
}
