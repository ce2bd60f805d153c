import java.nio.charset.StandardCharsets;

/** What the tests share: telling texts, comparing answers, and ending with the right exit code. */
final class Checks {
    private static int wrong = 0;
    private static int made = 0;

    private Checks() {
    }

    static void due(String call, long got, long want) {
        made++;
        if (got != want) {
            wrong++;
            if (wrong <= 40) {
                System.out.println(call + " answered " + got + ", due is " + want);
            }
        }
    }

    static void holds(String what, boolean truth) {
        due(what, truth ? 1 : 0, 1);
    }

    static int wrongSoFar() {
        return wrong;
    }

    static void end() {
        System.out.println(wrong == 0 ? made + " answers are as due" : wrong + " of " + made + " answers are not as due");
        if (wrong != 0) {
            System.exit(1);
        }
    }

    /** The numbers that feed() takes for a text's bytes, filled up with blanks. */
    static int[][] words(byte[] bytes) {
        int calls = (bytes.length + 19) / 20;
        int[][] words = new int[calls][5];
        for (int i = 0; i < 20 * calls; i++) {
            int value = i < bytes.length ? bytes[i] & 255 : 32;
            words[i / 20][i % 20 / 4] |= value << (24 - 8 * (i % 4));
        }
        return words;
    }

    static byte[] bytes(String text) {
        return text.getBytes(StandardCharsets.ISO_8859_1);
    }

    static void tape(InvariantWorks works, String text) {
        for (int[] w : words(bytes(text))) {
            works.feed(w[0], w[1], w[2], w[3], w[4]);
        }
    }

    static int tables(InvariantWorks works, String text) {
        tape(works, text);
        return works.tables(text.length());
    }

    static int polynomial(InvariantWorks works, int k, String text) {
        tape(works, text);
        return works.polynomial(k, text.length());
    }

    /** What a fault at a place answers. */
    static int fault(int place, int kind) {
        return -2 - (8 * place + kind);
    }

    /** The polynomial kept as k, as a text of its terms in their order. */
    static String told(InvariantWorks works, int k) {
        StringBuilder text = new StringBuilder();
        int terms = works.of(k, 1);
        for (int i = 0; i < terms; i++) {
            text.append(i == 0 ? "" : "+").append(works.term(k, i, 0));
            for (int v = 1; v <= 3; v++) {
                int power = works.term(k, i, v);
                if (power > 0) {
                    text.append("xyz".charAt(v - 1)).append(power);
                }
            }
        }
        return text.toString();
    }
}
