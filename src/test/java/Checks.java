import java.nio.charset.StandardCharsets;

/** What the tests share: telling texts, comparing answers, and ending with the right exit code. */
final class Checks {
    private static int wrong = 0;
    private static int made = 0;
    private static String sentence = "";
    private static int sentences = 0;
    private static int madeBefore = 0;

    private Checks() {
    }

    /** From here on a sentence of the document is tested, till the next one or the end. */
    static void says(String words) {
        endSentence();
        sentence = words;
        sentences++;
        madeBefore = made;
    }

    private static void endSentence() {
        if (sentences > 0 && made == madeBefore) {
            wrong++;
            System.out.println("nothing is asked of: " + sentence);
        }
    }

    static void due(String call, long got, long want) {
        made++;
        if (got != want) {
            fails(call + " answered " + got + ", due is " + want);
        }
    }

    static void due(String call, String got, String want) {
        made++;
        if (!got.equals(want)) {
            fails(call + " answered \"" + got + "\", due is \"" + want + "\"");
        }
    }

    private static void fails(String what) {
        wrong++;
        if (wrong <= 40) {
            System.out.println((sentence.isEmpty() ? "" : "[" + sentence + "] ") + what);
        }
    }

    static void holds(String what, boolean truth) {
        due(what, truth ? 1 : 0, 1);
    }

    static int wrongSoFar() {
        return wrong;
    }

    static void end() {
        endSentence();
        String all = made + " answers" + (sentences == 0 ? "" : " for " + sentences + " sentences");
        System.out.println(wrong == 0 ? all + " are as due" : wrong + " of " + all + " are not as due");
        if (wrong != 0) {
            System.exit(1);
        }
    }

    /** The numbers that feed() takes for a text's bytes, filled up with blanks. */
    static int[][] words(byte[] bytes) {
        int calls = (bytes.length + 19) / 20;
        int[][] words = new int[calls][5];
        for (int i = 0; i < 20 * calls; i++) {
            int value = i < bytes.length ? bytes[i] & 255 : 32;
            words[i / 20][i % 20 / 4] |= value << (24 - 8 * (i % 4));
        }
        return words;
    }

    static byte[] bytes(String text) {
        return text.getBytes(StandardCharsets.ISO_8859_1);
    }

    static void tape(InvariantWorks works, String text) {
        for (int[] w : words(bytes(text))) {
            works.feed(w[0], w[1], w[2], w[3], w[4]);
        }
    }

    static int tables(InvariantWorks works, String text) {
        tape(works, text);
        return works.tables(text.length());
    }

    static int polynomial(InvariantWorks works, int k, String text) {
        tape(works, text);
        return works.polynomial(k, text.length());
    }

    /** What a fault at a place answers. */
    static int fault(int place, int kind) {
        return -2 - (8 * place + kind);
    }

    /** The polynomial kept as k, as a text of its terms in their order. */
    static String told(InvariantWorks works, int k) {
        StringBuilder text = new StringBuilder();
        int terms = works.of(k, 1);
        for (int i = 0; i < terms; i++) {
            text.append(i == 0 ? "" : "+").append(works.term(k, i, 0));
            for (int v = 1; v <= 3; v++) {
                int power = works.term(k, i, v);
                if (power > 0) {
                    text.append("xyz".charAt(v - 1)).append(power);
                }
            }
        }
        return text.toString();
    }

    /** An object that has been told TABLES. */
    static InvariantWorks with(String tables) {
        InvariantWorks works = new InvariantWorks();
        tables(works, tables);
        return works;
    }

    /** All that an object answers of what it holds, for small groups and short polynomials. */
    static String state(InvariantWorks works) {
        StringBuilder text = new StringBuilder();
        text.append("tape ").append(works.count(0)).append(" group");
        for (int what = 0; what < 6; what++) {
            text.append(' ').append(works.group(what));
        }
        for (int i = 0; i < 9 * works.group(0); i++) {
            text.append(' ').append(works.member(i / 9, i / 3 % 3, i % 3));
        }
        for (int k = 0; k < 6; k++) {
            text.append(" kept ").append(told(works, k));
        }
        text.append(" rewritten ").append(works.count(1));
        for (int i = 0; i < 27; i++) {
            text.append(' ').append(works.rewritten(0, i / 9, i / 3 % 3, i % 3));
        }
        return text.toString();
    }

    /** Numbers that are none of those from 0 to most. */
    static int[] outside(int most) {
        return new int[] {-1, most + 1, -2, most + 2, Integer.MIN_VALUE, Integer.MAX_VALUE, 1 << 16, -(1 << 16)};
    }
}
