/** The tape, texts and their faults: each sentence of the document that names a boundary has its test. */
public final class TextEdgesTest {
    private static final String ONE = "1 0/0 1";
    private static final String FOUR = ONE + ";" + ONE + ";" + ONE + ";" + ONE;
    private static final String SWAP = "0 1/1 0";
    private static final String ONE3 = "1 0 0/0 1 0/0 0 1";
    private static final String DIGITS = "0123456789";
    private static final String BLANKS = " \n";
    private static final String BEGINS_PART = BLANKS + DIGITS + "xy(";

    private TextEdgesTest() {
    }

    public static void main(String[] args) {
        tapeRoom();
        fedOrder();
        fedFull();
        tablesTakeTheFirst();
        tablesRefused();
        tablesFaultStays();
        polynomialTakesTheFirst();
        polynomialRefused();
        polynomialFaultStays();
        numbersWrap();
        numberDigits();
        blanks();
        tablesAreFour();
        rowsAreAlike();
        inverses();
        zHasNoPlace();
        exponents();
        zeroToZero();
        degreeFifteen();
        leastPlace();
        firstOfOnePlace();
        noToken();
        noTextOfTables();
        noTextOfPolynomials();
        rowsOfDigits();
        numbersAndSlashes();
        atTheEnd();
        fifthTable();
        exponentAbove();
        bracketsWithin();
        onlyWhereNone();
        firstWithoutInverse();
        membersTooMany();
        workedOutTooHigh();
        Checks.end();
    }

    private static void due(String call, long got, long want) {
        Checks.due(call, got, want);
    }

    /** A text of TABLES, told to an object that holds something: its answer is due, on a fault all else stays. */
    private static void tables(String text, int want) {
        InvariantWorks w = holding(SWAP);
        String before = Checks.state(w);
        due("tables \"" + text + "\"", Checks.tables(w, text), want);
        if (want < 0) {
            Checks.due("all else stays, \"" + text + "\"", Checks.state(w), before);
        }
    }

    private static void polynomial(String text, int want) {
        InvariantWorks w = holding(SWAP);
        String before = Checks.state(w);
        due("polynomial \"" + text + "\"", Checks.polynomial(w, 2, text), want);
        if (want < 0) {
            Checks.due("all else stays, \"" + text + "\"", Checks.state(w), before);
        }
    }

    private static InvariantWorks holding(String tables) {
        InvariantWorks w = Checks.with(tables);
        Checks.polynomial(w, 2, "x*y+x+y");
        Checks.polynomial(w, 5, "7*x^3+1");
        w.rewrite(2);
        return w;
    }

    private static int fault(int place, int kind) {
        return Checks.fault(place, kind);
    }

    private static String filled(String text, int length) {
        StringBuilder all = new StringBuilder(text);
        while (all.length() < length) {
            all.insert(0, ' ');
        }
        return all.toString();
    }

    // ---- the tape

    private static void tapeRoom() {
        Checks.says("THE TAPE has 400 bytes");
        polynomial(filled("x^2", 400), 2);
        polynomial(filled("x^", 400), fault(400, 1));
        polynomial(filled("?", 400), fault(399, 1));
        polynomial(filled("x^16", 400), fault(398, 2));
        tables(filled(SWAP, 400), 2);
        tables(filled("1 0/0", 400), fault(400, 1));
        tables(filled(FOUR + ";", 400), fault(399, 2));
        tables(filled("1 0/0 0", 400), fault(393, 3));
        StringBuilder ones = new StringBuilder("1");
        while (ones.length() < 399) {
            ones.append("+1");
        }
        polynomial(ones.toString(), 0);
        polynomial(ones + "-", fault(400, 1));
        polynomial(ones.toString().replace('+', '*'), 0);
        InvariantWorks w = new InvariantWorks();
        Checks.polynomial(w, 0, ones.toString());
        due("two hundred ones", w.factor(0, 0, 0, 0), 200);
    }

    private static void fedOrder() {
        Checks.says("Twenty bytes come behind THE TAPE, of each number the highest first: how many it has");
        for (int place = 0; place < 40; place++) {
            InvariantWorks w = new InvariantWorks();
            int[] words = new int[10];
            for (int i = 0; i < 40; i++) {
                words[i / 4] = words[i / 4] << 8 | (i == place ? 'x' : 32);
            }
            due("feed", w.feed(words[0], words[1], words[2], words[3], words[4]), 20);
            due("feed", w.feed(words[5], words[6], words[7], words[8], words[9]), 40);
            due("x at place " + place, w.polynomial(0, place + 1), 1);
            w.feed(words[0], words[1], words[2], words[3], words[4]);
            w.feed(words[5], words[6], words[7], words[8], words[9]);
            due("ahead of place " + place, w.polynomial(0, place), fault(place, 1));
        }
        InvariantWorks w = new InvariantWorks();
        due("numbers below 0", w.feed(0x202020FF, -1, Integer.MIN_VALUE, 0, 0), 20);
        due("byte 255 is the fourth", w.polynomial(0, 20), fault(3, 1));
    }

    private static void fedFull() {
        Checks.says("NONE, and none come, if it would have more than 400");
        InvariantWorks w = new InvariantWorks();
        for (int i = 1; i < 20; i++) {
            due("feed", w.feed(0x20202020, 0x20202020, 0x20202020, 0x20202020, 0x20202020), 20 * i);
        }
        due("just 400", w.feed(0x20202020, 0x20202020, 0x20202020, 0x20202020, 0x20202079), 400);
        for (int i = 0; i < 3; i++) {
            due("more than 400", w.feed(0x3F3F3F3F, 0x3F3F3F3F, 0x3F3F3F3F, 0x3F3F3F3F, 0x3F3F3F3F), -1);
            due("none come", w.count(0), 400);
        }
        due("none has come in another's place", w.polynomial(0, 400), 1);
        due("the last byte is still y", w.factor(0, 0, 1, 0), 1);
        due("there is room again", w.feed(0, 0, 0, 0, 0), 20);
    }

    // ---- tables(), polynomial()

    private static void tablesTakeTheFirst() {
        Checks.says("The first n bytes of THE TAPE (it is empty then) are TABLES in place of those there were: how many MEMBERS");
        InvariantWorks w = new InvariantWorks();
        Checks.tape(w, "-1 0/0 -1;0 1/1 0?");
        due("the first nine bytes", w.tables(9), 2);
        due("what stood behind is gone, too", w.count(0), 0);
        Checks.tape(w, "-1 0/0 -1;0 1/1 0?");
        due("the first seventeen bytes", w.tables(17), 4);
        due("both are told", w.group(2), 2);
        Checks.tape(w, SWAP + "             ");
        due("all twenty bytes", w.tables(20), 2);
        due("in place of those there were", w.group(2), 1);
        Checks.tape(w, SWAP);
        due("none of the bytes", w.tables(0), fault(0, 1));
        due("it is empty then", w.count(0), 0);
        due("none of no bytes", w.tables(0), fault(0, 1));
        Checks.tape(w, "?" + SWAP);
        due("a fault", w.tables(8), fault(0, 1));
        due("it is empty then, with a fault, too", w.count(0), 0);
        Checks.tape(w, SWAP);
        due("next bytes stand first again", w.tables(7), 2);
    }

    private static void tablesRefused() {
        Checks.says("NONE: it has not so many, n is below 0 (THE TAPE stays)");
        InvariantWorks w = holding(SWAP);
        for (int n : Checks.outside(0)) {
            due("nothing on the tape, tables(" + n + ")", w.tables(n), -1);
        }
        Checks.tape(w, "-1 0/0 1");
        String before = Checks.state(w);
        for (int n : Checks.outside(20)) {
            due("twenty on the tape, tables(" + n + ")", w.tables(n), -1);
            Checks.due("all stays", Checks.state(w), before);
        }
        due("the tape has its bytes", w.tables(20), 2);
        due("the new table", w.member(1, 0, 0), 2520);
        Checks.tape(w, filled(SWAP, 400));
        due("more than a full tape", w.tables(401), -1);
        due("a full tape", w.tables(400), 2);
    }

    private static void tablesFaultStays() {
        Checks.says("-2 less (8 * place + kind): a FAULT (all else stays)");
        tables("?", -2 - 1);
        tables(" ?", -2 - 9);
        tables(FOUR + ";", -2 - (8 * 31 + 2));
        tables("1 0/0 0", -2 - 3);
        tables(" 1 0/0 0", -2 - 11);
        tables("1 1/0 1", -2 - 4);
        tables("1 0 0/0 1 0/0 0 0", -2 - 3);
        tables("1 0 1/0 1 0/0 0 1", -2 - 4);
        tables(ONE3 + ";?", -2 - (8 * 18 + 1));
        InvariantWorks w = holding(SWAP);
        int primary = w.primary(1, 0);
        Checks.tables(w, "1 0/0 2");
        due("primary ones stay", w.primary(1, 0), primary);
        due("the base stays", w.series(1), 1);
        due("products stay", w.times(1, 1), 0);
        due("it still moves", w.moved(5, 1, 5), 2);
        due("by the old member", w.factor(5, 0, 3, 0), 7);
    }

    private static void polynomialTakesTheFirst() {
        Checks.says("Likewise the POLYNOMIAL kept as k: its degree");
        InvariantWorks w = new InvariantWorks();
        for (int k = 0; k < 6; k++) {
            Checks.tape(w, "x^3+1?");
            due("the first three bytes", w.polynomial(k, 3), 3);
            due("the tape is empty", w.count(0), 0);
            Checks.due("kept as " + k, Checks.told(w, k), "1x3");
        }
        Checks.tape(w, "x^3+1?");
        due("the first byte", w.polynomial(0, 1), 1);
        Checks.due("others stay", Checks.told(w, 1), "1x3");
        Checks.tape(w, "x");
        due("none of the bytes", w.polynomial(0, 0), fault(0, 1));
        due("the tape is empty, with a fault, too", w.count(0), 0);
        Checks.tape(w, "x-x");
        due("of 0", w.polynomial(0, 3), 0);
        Checks.due("0 is kept", Checks.told(w, 0), "");
        polynomial("2520", 0);
        polynomial("x^15", 15);
        polynomial("x^15-x^15+y^4", 4);
    }

    private static void polynomialRefused() {
        Checks.says("NONE: also no such k (THE TAPE stays)");
        InvariantWorks w = holding(SWAP);
        Checks.tape(w, "x^3");
        String before = Checks.state(w);
        for (int k : Checks.outside(5)) {
            due("polynomial(" + k + ", 3)", w.polynomial(k, 3), -1);
            due("polynomial(" + k + ", 0)", w.polynomial(k, 0), -1);
            due("polynomial(" + k + ", 21)", w.polynomial(k, 21), -1);
        }
        for (int n : Checks.outside(20)) {
            due("polynomial(0, " + n + ")", w.polynomial(0, n), -1);
        }
        Checks.due("all stays", Checks.state(w), before);
        due("the tape has its bytes", w.polynomial(5, 20), 3);
    }

    private static void polynomialFaultStays() {
        Checks.says("Likewise -2 less (8 * place + kind): a FAULT (all else stays)");
        polynomial("?", -2 - 1);
        polynomial(" ?", -2 - 9);
        polynomial("x+x^16", -2 - (8 * 4 + 2));
        polynomial("  x^15*x", -2 - 3);
    }

    // ---- numbers

    private static int leaves(int number) {
        return Math.floorMod(number, 2521);
    }

    private static void numbersWrap() {
        Checks.says("NUMBERS are whole ones, of all of them what 2521 leaves (0 to 2520) counts");
        int[] numbers = {0, 1, 1260, 1261, 2519, 2520, 2521, 2522, 5041, 5042, 5043, 7562, 7563, 9998, 9999};
        for (int number : numbers) {
            InvariantWorks w = new InvariantWorks();
            // its own inverse: the first row times the second column is 0
            due("table", Checks.tables(w, "1 " + number + "/0 -1"), 2);
            due("the number " + number, w.member(1, 0, 1), leaves(number));
            due("table", Checks.tables(w, "1-" + number + "/0 2520"), 2);
            due("the number -" + number, w.member(1, 0, 1), leaves(-number));
            Checks.polynomial(w, 0, number + "*x-" + number);
            due("the factor " + number, w.factor(0, 1, 0, 0), leaves(number));
            due("the factor -" + number, w.factor(0, 0, 0, 0), leaves(-number));
            due("terms", w.of(0, 1), leaves(number) == 0 ? 0 : 2);
        }
        InvariantWorks w = new InvariantWorks();
        Checks.polynomial(w, 0, "2520*2520*x+2520*y+y+9999^15");
        Checks.due("worked out", Checks.told(w, 0), "1x1+" + power(9999, 15));
        due("2520 and 1 are 0", Checks.polynomial(w, 0, "2520+1"), 0);
        due("2520 and 1 are 0", w.of(0, 1), 0);
    }

    private static int power(int number, int power) {
        int result = 1;
        for (int i = 0; i < power; i++) {
            result = result * leaves(number) % 2521;
        }
        return result;
    }

    private static void numberDigits() {
        Checks.says("NUMBER: [ - ] and 1 to 4 digits that stand together");
        tables("1 0/0 0001", 1);
        tables("1 0/0 00001", fault(6, 1));
        tables("1 0/0 1 0", fault(8, 1));
        tables("1 0/0 -0001", 1 + 1);
        tables("1 0/0 -00001", fault(7, 1));
        tables("-1-0/-0-1", 2);
        tables("- 1 0/0 - 1", 2);
        tables("--1 0/0 1", fault(1, 1));
        tables("1 0/0 -", fault(7, 1));
        tables("1 0/0 1-", fault(7, 1));
        tables("1 0/0 +1", fault(6, 1));
        polynomial("0009", 0);
        polynomial("00009", fault(0, 1));
        polynomial("99 99", fault(3, 1));
        polynomial("x-9999", 1);
        polynomial("x-99999", fault(2, 1));
    }

    private static void blanks() {
        Checks.says("in each TEXT blanks, 32, 10, part TOKENS and mean nothing else");
        tables("\n \n1\n0 /\n0 1\n \n", 1);
        tables("0 1 \n/ \n1 0 \n; \n0 1 / 1 0", 2);
        tables("1 0/0 1\t", fault(7, 1));
        tables("1\t0/0 1", fault(1, 1));
        tables("1\r0/0 1", fault(1, 1));
        tables("10/01", fault(2, 1));
        polynomial(" \n( \n x \n ) \n ^ \n 2 \n * \n 3 \n + \n 1 \n ", 2);
        polynomial("x\t", fault(1, 1));
        polynomial("x\r\n", fault(1, 1));
        polynomial("x\u00a0", fault(1, 1));
        polynomial("x\u0000", fault(1, 1));
        polynomial("x^1 2", fault(4, 1));
        polynomial("x^1\n2", fault(4, 1));
        polynomial("1 2", fault(2, 1));
        polynomial("x y", fault(2, 1));
    }

    // ---- tables

    private static void tablesAreFour() {
        Checks.says("TABLES are a TEXT: TABLE { ; TABLE }, 4 at most");
        String all = "";
        for (int many = 1; many <= 4; many++) {
            all += (many == 1 ? "" : ";") + ONE;
            InvariantWorks w = new InvariantWorks();
            due(many + " tables", Checks.tables(w, all), 1);
            due("tables told", w.group(2), many);
        }
        tables(all + ";" + ONE, fault(31, 2));
        tables("", fault(0, 1));
        tables(";" + ONE, fault(0, 1));
        tables(ONE + ";", fault(8, 1));
        tables(ONE + ";;" + ONE, fault(8, 1));
        InvariantWorks w = Checks.with("1 0/0 1;-1 0/0 1;1 0/0 -1;0 1/1 0");
        due("the fourth is taken, too", w.group(0), 8);
        due("the fourth is taken, too", w.member(3, 0, 1), 1);
    }

    private static void rowsAreAlike() {
        Checks.says("ROW: two NUMBERS, or three (as many as it has ROWS, all TABLES alike)");
        due("two", Checks.with(ONE).group(1), 2);
        due("three", Checks.with(ONE3).group(1), 3);
        tables("1/1", fault(1, 1));
        tables("1", fault(1, 1));
        tables("1 0 0 0/", fault(6, 1));
        tables("1 0 0/0 1 0", fault(11, 1));
        tables("1 0/0 1/0 0", fault(7, 1));
        tables("1 0 0/0 1/0 0 1", fault(9, 1));
        tables("1 0/0 1 0", fault(8, 1));
        tables(ONE + ";" + ONE3, fault(12, 1));
        tables(ONE3 + ";" + ONE, fault(21, 1));
        tables(ONE3 + ";" + ONE3, 1);
    }

    private static void inverses() {
        Checks.says("A TABLE: D rows of D NUMBERS, which has an inverse");
        // 50 * 50 + 21 = 2521
        tables("50 1/-21 50", fault(0, 3));
        tables("2521 0/0 1", fault(0, 3));
        tables("0 0/0 0", fault(0, 3));
        tables("2520 0/0 2520", 2);
        tables("2522 2521/5042 1", 1);
        tables("50 1 0/-21 50 0/0 0 1", fault(0, 3));
        tables("1 0 0/0 1 0/1 1 0", fault(0, 3));
        tables("0 0 1/0 1 0/1 0 0", 2);
    }

    // ---- polynomials

    private static void zHasNoPlace() {
        Checks.says("A POLYNOMIAL of x, y, z (z has no place with D 2)");
        polynomial("z", fault(0, 1));
        polynomial("x+y*z", fault(4, 1));
        polynomial("0*z^0", fault(2, 1));
        InvariantWorks w = Checks.with(ONE3);
        due("z with D 3", Checks.polynomial(w, 0, "x*y*z^2"), 4);
        Checks.due("z with D 3", Checks.told(w, 0), "1x1y1z2");
        Checks.tables(w, ONE);
        due("z with D 2 again", Checks.polynomial(w, 0, "x+z"), fault(2, 1));
    }

    private static void exponents() {
        Checks.says("EXPONENT: 1 to 2 digits that stand together, 0 to 15");
        for (int power = 0; power <= 15; power++) {
            polynomial("x^" + power, power);
            polynomial("x^" + (power < 10 ? "0" : "") + power, power);
            InvariantWorks w = new InvariantWorks();
            Checks.polynomial(w, 0, "(2*x)^" + power);
            due("2 to " + power, w.factor(0, power, 0, 0), power(2, power));
        }
        polynomial("x^", fault(2, 1));
        polynomial("x^015", fault(2, 1));
        polynomial("x^000", fault(2, 1));
        polynomial("x^16", fault(2, 2));
        polynomial("x^99", fault(2, 2));
        polynomial("1^16", fault(2, 2));
        polynomial("x^-1", fault(2, 1));
        polynomial("x^2^2", fault(3, 1));
    }

    private static void zeroToZero() {
        Checks.says("(0 to the power 0 is 1.)");
        for (String text : new String[] {"0^0", "2521^00", "(x-x)^0", "(x+y-y-x)^0", "0^1+1", "x^0"}) {
            InvariantWorks w = new InvariantWorks();
            due(text, Checks.polynomial(w, 0, text), 0);
            Checks.due(text, Checks.told(w, 0), "1");
        }
        InvariantWorks w = new InvariantWorks();
        Checks.polynomial(w, 0, "0^1");
        Checks.due("0^1", Checks.told(w, 0), "");
        Checks.polynomial(w, 0, "(x-x)^15");
        Checks.due("(x-x)^15", Checks.told(w, 0), "");
    }

    private static void degreeFifteen() {
        Checks.says("of degree 15 at most");
        for (String text : new String[] {"x^15", "y^15", "x^7*y^8", "(x+y+1)^15", "(x*y*x)^5", "x^15*3", "x*x*x*x*x*x*x*x*x*x*x*x*x*x*x"}) {
            polynomial(text, 15);
            polynomial("(" + text + ")*x", fault(0, 3));
        }
        InvariantWorks w = Checks.with(ONE3);
        due("z^15", Checks.polynomial(w, 0, "z^15"), 15);
        due("x^5*y^5*z^5", Checks.polynomial(w, 0, "x^5*y^5*z^5"), 15);
        due("x^5*y^5*z^6", Checks.polynomial(w, 0, "x^5*y^5*z^6"), fault(0, 3));
        due("(x+y+z+1)^15", Checks.polynomial(w, 0, "(x+y+z+1)^15"), 15);
        due("its terms", w.of(0, 1), 816);
    }

    // ---- faults

    private static void leastPlace() {
        Checks.says("FAULTS of a TEXT, the one whose place is least");
        polynomial("x^16+?", fault(2, 2));
        polynomial("?+x^16", fault(0, 1));
        polynomial("x+?+?", fault(2, 1));
        polynomial("x^17+x^16", fault(2, 2));
        polynomial("(((((((((x^16", fault(8, 2));
        polynomial("((((((((x^16+(", fault(10, 2));
        polynomial("x^123+x^16", fault(2, 1));
        tables(FOUR + ";?", fault(31, 2));
        tables("1 0/0 ?;" + FOUR, fault(6, 1));
        tables(FOUR + "?;", fault(31, 1));
    }

    private static void firstOfOnePlace() {
        Checks.says("of one place the one that stands first here");
        polynomial("x^016", fault(2, 1));
        polynomial("x^99999", fault(2, 1));
        polynomial("((((((((x(", fault(9, 1));
        polynomial("((((((((1^(", fault(10, 1));
        polynomial("?x^15*x", fault(0, 1));
        tables("?", fault(0, 1));
        tables("0 0/0 0;1 1/0 1", fault(0, 3));
        tables("1 1/0 1;0 0/0 0", fault(8, 3));
    }

    private static void noToken() {
        Checks.says("one that begins no TOKEN (TOKENS: NUMBERS, x, y, z, single signs of ; / - + * ^ ( ))");
        InvariantWorks w = Checks.with(ONE3);
        for (int b = 0; b < 256; b++) {
            String sign = String.valueOf((char) b);
            boolean begins = (DIGITS + "xyz(-" + BLANKS).contains(sign);
            int want = "xyz".contains(sign) ? 1 : DIGITS.contains(sign) ? 0 : fault(begins ? 1 : 0, 1);
            due("polynomial of the byte " + b, Checks.polynomial(w, 0, sign), want);
        }
    }

    /** With each byte that does not go on a text the fault is at it; with one that does it is behind, if there is one. */
    private static void goesOn(boolean tables, String tablesAhead, String ahead, String with) {
        InvariantWorks w = Checks.with(tablesAhead);
        for (int b = 0; b < 256; b++) {
            String text = ahead + (char) b;
            int got = tables ? Checks.tables(w, text) : Checks.polynomial(w, 0, text);
            if (with.indexOf(b) < 0) {
                due("\"" + ahead + "\" and the byte " + b, got, fault(ahead.length(), 1));
            } else {
                // a whole text may still have no inverse, or too many members
                boolean whole = got >= 0 || (-2 - got) % 8 > 2;
                Checks.holds("\"" + ahead + "\" goes on with the byte " + b, whole || got == fault(text.length(), 1));
            }
        }
    }

    private static void noTextOfTables() {
        Checks.says("1 the first byte with which no TEXT goes on: of TABLES");
        String number = BLANKS + DIGITS + "-";
        goesOn(true, ONE, "", number);
        goesOn(true, ONE, "-", BLANKS + DIGITS);
        goesOn(true, ONE, "1 ", number);
        goesOn(true, ONE, "0 1 ", number + "/");
        goesOn(true, ONE, "0 1 -", BLANKS + DIGITS);
        goesOn(true, ONE, "0 1/", number);
        goesOn(true, ONE, "0 1/1 ", number);
        goesOn(true, ONE, "0 1/1 0 ", BLANKS + ";");
        goesOn(true, ONE, "0 1/1 0;", number);
        goesOn(true, ONE, "0 1/1 0;1 ", number);
        goesOn(true, ONE, "0 1/1 0;1 0 ", BLANKS + "/");
        goesOn(true, ONE, "0 1/1 0;0 1/1 0 ", BLANKS + ";");
        goesOn(true, ONE, "1 0 0 ", BLANKS + "/");
        goesOn(true, ONE, "1 0 0/", number);
        goesOn(true, ONE, "1 0 0/0 1 ", number);
        goesOn(true, ONE, "1 0 0/0 1 0 ", BLANKS + "/");
        goesOn(true, ONE, "1 0 0/0 1 0/", number);
        goesOn(true, ONE, "1 0 0/0 1 0/0 0 ", number);
        goesOn(true, ONE, "1 0 0/0 1 0/0 0 1 ", BLANKS + ";");
        goesOn(true, ONE, ONE3 + ";1 0 ", number);
        goesOn(true, ONE, ONE3 + ";1 0 0 ", BLANKS + "/");
        goesOn(true, ONE, "9999 ", number);
        goesOn(true, ONE3, "0 1/1 ", number);
    }

    private static void noTextOfPolynomials() {
        Checks.says("1 the first byte with which no TEXT goes on: of a POLYNOMIAL");
        goesOn(false, ONE, "", BEGINS_PART + "-");
        goesOn(false, ONE, "-", BEGINS_PART);
        goesOn(false, ONE, "x+", BEGINS_PART);
        goesOn(false, ONE, "x-", BEGINS_PART);
        goesOn(false, ONE, "x*", BEGINS_PART);
        goesOn(false, ONE, "x", BLANKS + "+-*^");
        goesOn(false, ONE, "12 ", BLANKS + "+-*^");
        goesOn(false, ONE, "12", BLANKS + "+-*^" + DIGITS);
        goesOn(false, ONE, "(x)", BLANKS + "+-*^");
        goesOn(false, ONE, "x^", BLANKS + DIGITS);
        goesOn(false, ONE, "x^2 ", BLANKS + "+-*");
        goesOn(false, ONE, "x^12 ", BLANKS + "+-*");
        goesOn(false, ONE, "(", BEGINS_PART + "-");
        goesOn(false, ONE, "((", BEGINS_PART + "-");
        goesOn(false, ONE, "(-", BEGINS_PART);
        goesOn(false, ONE, "(x", BLANKS + "+-*^)");
        goesOn(false, ONE, "(x^2 ", BLANKS + "+-*)");
        goesOn(false, ONE, "((x)", BLANKS + "+-*^)");
        goesOn(false, ONE3, "", BEGINS_PART + "-z");
        goesOn(false, ONE3, "x*", BEGINS_PART + "z");
        goesOn(false, ONE3, "z", BLANKS + "+-*^");
    }

    private static void rowsOfDigits() {
        Checks.says("a digit of a row of more than four, in an EXPONENT of more than two: that row's first byte");
        polynomial("1234", 0);
        polynomial("12345", fault(0, 1));
        polynomial("x+ 00000", fault(3, 1));
        polynomial("x*123456789012345678901234567890", fault(2, 1));
        polynomial("x^12", 12);
        polynomial("x^123", fault(2, 1));
        polynomial("x^ 001", fault(3, 1));
        polynomial("x^1234", fault(2, 1));
        polynomial("x^123456", fault(2, 1));
        tables("1 0/0 12345", fault(6, 1));
        tables("1 12345/0 1", fault(2, 1));
        tables("12345 0/0 1", fault(0, 1));
        tables("1 0 -00001/", fault(5, 1));
        tables("1 0/0 1;1 0/0 10000", fault(14, 1));
    }

    private static void numbersAndSlashes() {
        Checks.says("a NUMBER one too many, a / one too many or too few");
        tables("1 0/0 1 1", fault(8, 1));
        tables("1 0/0 1 -1", fault(8, 1));
        tables("1 0 0/0 1 0 0", fault(12, 1));
        tables("1 0 0 0", fault(6, 1));
        tables("1 0/0 1/", fault(7, 1));
        tables("1 0/0 1 /1 1", fault(8, 1));
        tables(ONE3 + "/", fault(17, 1));
        tables("1 0;", fault(3, 1));
        tables("1 0 0/0 1 0;" + ONE3, fault(11, 1));
        tables("1 0 0;", fault(5, 1));
        tables("1//0", fault(1, 1));
        tables("/", fault(0, 1));
    }

    private static void atTheEnd() {
        Checks.says("at the end how many bytes there are");
        String[] texts = {"-1 0/0 -1; 0 1/1 0 \n", " -1 0 0 / 0 -1 0/0 0 -1;0 -1 0/-1 0 0/0 0 -1"};
        int[][] whole = {{9, 18, 19, 20}, {23, 44}};
        for (int t = 0; t < texts.length; t++) {
            for (int n = 0; n <= texts[t].length(); n++) {
                InvariantWorks w = new InvariantWorks();
                Checks.tape(w, texts[t]);
                int got = w.tables(n);
                boolean ends = false;
                for (int end : whole[t]) {
                    ends = ends || n == end;
                }
                Checks.holds(n + " bytes of " + texts[t], ends ? got > 0 : got == fault(n, 1));
            }
        }
        String text = " -( x+2*y^12 )^1-3 ";
        String wholes = "00000000000000101011";
        for (int n = 0; n <= text.length(); n++) {
            InvariantWorks w = new InvariantWorks();
            Checks.tape(w, text);
            int got = w.polynomial(0, n);
            Checks.holds(n + " bytes of " + text, wholes.charAt(n) == '1' ? got == 12 : got == fault(n, 1));
        }
        tables("", fault(0, 1));
        tables("  \n", fault(3, 1));
        polynomial("", fault(0, 1));
        polynomial("\n\n", fault(2, 1));
        polynomial("(x  ", fault(4, 1));
    }

    private static void fifthTable() {
        Checks.says("2 a fifth TABLE, at its ;");
        tables(FOUR + ";" + ONE, fault(31, 2));
        tables(FOUR + " \n;" + ONE, fault(33, 2));
        tables(FOUR + ";" + ONE + ";" + ONE, fault(31, 2));
        tables(FOUR + ";" + ONE3, fault(31, 2));
        tables(FOUR + ";", fault(31, 2));
        tables(FOUR, 1);
        tables(ONE3 + ";" + ONE3 + ";" + ONE3 + ";" + ONE3 + ";" + ONE3, fault(71, 2));
    }

    private static void exponentAbove() {
        Checks.says("an EXPONENT above 15, at its first byte");
        polynomial("x^15", 15);
        polynomial("x^16", fault(2, 2));
        polynomial("x^\n 16", fault(4, 2));
        polynomial("x^2+(y^99)", fault(7, 2));
        polynomial("0^20", fault(2, 2));
        polynomial("x^1 6", fault(4, 1));
    }

    private static void bracketsWithin() {
        Checks.says("a ( within eight others, at it");
        polynomial("((((((((x))))))))", 1);
        polynomial("(((((((((x)))))))))", fault(8, 2));
        polynomial("(((((((( (x)))))))))", fault(9, 2));
        polynomial("((((((((x+1)*(y)))))))^2)", 4);
        polynomial("((((((((x))))))))*((((((((y))))))))", 2);
        polynomial("(x)+(x)+(x)+(x)+(x)+(x)+(x)+(x)+(x)+(x)", 1);
        polynomial("((((((((x)*(x*(y", fault(14, 2));
        polynomial("((((((((x*(", fault(10, 2));
    }

    private static void onlyWhereNone() {
        Checks.says("Only where there is none of these");
        tables("0 0/0 0;?", fault(8, 1));
        tables("0 0/0 0;1 0/0 1 ", fault(0, 3));
        tables("0 0/0 0;" + FOUR, fault(31, 2));
        tables("1 1/0 1;1 0/0", fault(13, 1));
        tables("1 1/0 1;" + FOUR, fault(31, 2));
        polynomial("x^15*x+?", fault(7, 1));
        polynomial("x^15*x+x^16", fault(9, 2));
        polynomial("x^15*x", fault(0, 3));
        polynomial("x^15*x*(", fault(8, 1));
    }

    private static void firstWithoutInverse() {
        Checks.says("of TABLES 3 the first byte of the first TABLE that has no inverse");
        tables("1 1/1 1", fault(0, 3));
        tables(" \n-1 1/1 -1", fault(2, 3));
        tables(ONE + "; 0 1/0 1", fault(9, 3));
        tables(ONE + ";-0 1/0 1;0 0/0 0", fault(8, 3));
        tables(ONE + ";" + ONE + ";" + ONE + ";\n0 0/0 0", fault(25, 3));
        tables("0 0/0 0;0 0/0 0", fault(0, 3));
        tables("1 2 3/4 5 6/7 8 9", fault(0, 3));
        tables(ONE3 + ";1 2 3/4 5 6/7 8 9", fault(18, 3));
    }

    private static void membersTooMany() {
        Checks.says("then 4 at place 0: more than 48 MEMBERS");
        long seven = Groups.root(7);
        // seven by seven are 49, just one too many
        tables(" " + seven + " 0/0 1;1 0/0 " + seven, fault(0, 4));
        tables(" " + seven + " 0/0 1", 7);
        tables("0 1 0/0 0 1/1 0 0;0 1 0/1 0 0/0 0 1;-1 0 0/0 1 0/0 0 1", 48);
        tables("1 1/0 1", fault(0, 4));
        tables("0 0/0 0;1 1/0 1", fault(0, 3));
        tables("1 1/0 1;\n0 0/0 0", fault(9, 3));
        long many = Groups.root(56);
        tables("1 0/0 " + many, fault(0, 4));
        tables("1 0/0 " + Groups.root(45), 45);
    }

    private static void workedOutTooHigh() {
        Checks.says("of a POLYNOMIAL 3 at place 0: something that is worked out (a PART, POWER, PRODUCT, SUM, each as far as it goes) is of a degree above 15");
        polynomial(" (x^2)^8", fault(0, 3));
        polynomial("(x^3)^5", 15);
        polynomial("x^8*y^8", fault(0, 3));
        polynomial("x^8*y^7", 15);
        polynomial("x*x^8*y^7*0", fault(0, 3));
        polynomial("0*x*x^8*y^7", 0);
        polynomial("x^15*0*x^15", 0);
        polynomial("x^15*x-x^15*x", fault(0, 3));
        polynomial("1+(x^15*x)^0", fault(0, 3));
        polynomial("(x^15)^0*x^15", 15);
        polynomial("(x^15+y-x^15)*x^14", 15);
        polynomial("(x^15+y-x^15)*x^15", fault(0, 3));
        polynomial("(x^15-x^15)^15", 0);
        polynomial("(x^15-x^15)*y^15", 0);
        polynomial("((x+1)^15-x^15)*x", 15);
        polynomial("2521*x^15*x^15", 0);
        polynomial("x^15*x^15*2521", fault(0, 3));
        polynomial("1*x^15+x^15*1*1", 15);
    }
}
