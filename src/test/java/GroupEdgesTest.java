import java.util.List;
import java.util.Random;

/** The group and its members: each sentence of the document that names a boundary has its test. */
public final class GroupEdgesTest {
    private static final String SWAP = "0 1/1 0";
    private static final String ALL3 = "0 1 0/0 0 1/1 0 0;0 1 0/1 0 0/0 0 1";
    private static final String CUBE = ALL3 + ";-1 0 0/0 1 0/0 0 1";

    private GroupEdgesTest() {
    }

    public static void main(String[] args) {
        constant();
        newObject();
        firstMember();
        asTheyCome();
        rowByColumn();
        most();
        groupWhat();
        lots();
        leastPower();
        eitherOrder();
        groupOthers();
        memberOthers();
        timesOthers();
        aboutWhat();
        aboutOthers();
        lastCall();
        Checks.end();
    }

    private static void due(String call, long got, long want) {
        Checks.due(call, got, want);
    }

    private static void constant() {
        Checks.says("NONE = -1: None; refused.");
        due("NONE", InvariantWorks.NONE, -1);
    }

    private static void newObject() {
        Checks.says("D 2, one MEMBER, that changes nothing; nothing is REWRITTEN");
        InvariantWorks w = new InvariantWorks();
        int[] want = {1, 2, 0, 1, 1, 1};
        for (int what = 0; what < 6; what++) {
            due("group(" + what + ")", w.group(what), want[what]);
        }
        for (int i = 0; i < 4; i++) {
            due("member", w.member(0, i / 2, i % 2), i % 3 == 0 ? 1 : 0);
        }
        due("D is not 3", w.member(0, 2, 2), -1);
        due("one member alone", w.member(1, 0, 0), -1);
        due("times", w.times(0, 0), 0);
        due("nothing is rewritten", w.count(1), -1);
        due("nothing is rewritten", w.rewritten(0, 0, 0, 0), -1);
        due("nothing on the tape", w.count(0), 0);
        for (int k = 0; k < 6; k++) {
            due("kept are 0", w.of(k, 1), 0);
        }
    }

    private static void firstMember() {
        Checks.says("MEMBER 0 is the TABLE that changes nothing");
        for (String text : new String[] {SWAP, "-1 0/0 -1;" + SWAP, ALL3, CUBE}) {
            InvariantWorks w = Checks.with(text);
            int d = w.group(1);
            for (int i = 0; i < d * d; i++) {
                due("member 0 of " + text, w.member(0, i / d, i % d), i / d == i % d ? 1 : 0);
            }
        }
        due("told itself it is no new one", Checks.with("1 0/0 1").group(0), 1);
        InvariantWorks w = Checks.with("1 0/0 1;" + SWAP);
        due("told itself it is no new one", w.group(0), 2);
        due("the second table is member 1", w.member(1, 0, 1), 1);
    }

    private static void asTheyCome() {
        Checks.says("going through MEMBERS by their numbers, as they come: that MEMBER times each TABLE told, one behind the other, is a new MEMBER, if it is none yet");
        // a quarter turn r and a swap s: 1, r, s, rr, rs, sr, rrr, rrs
        InvariantWorks w = Checks.with("0 1/-1 0;0 1/1 0");
        int[][] want = {{1, 0, 0, 1}, {0, 1, -1, 0}, {0, 1, 1, 0}, {-1, 0, 0, -1}, {1, 0, 0, -1}, {-1, 0, 0, 1}, {0, -1, 1, 0}, {0, -1, -1, 0}};
        due("members", w.group(0), 8);
        for (int g = 0; g < 8; g++) {
            for (int i = 0; i < 4; i++) {
                due("member " + g, w.member(g, i / 2, i % 2), Math.floorMod(want[g][i], 2521));
            }
        }
        w = Checks.with(SWAP + ";" + SWAP + ";0 1/-1 0");
        due("a table told twice", w.group(0), 8);
        due("the third table is member 2", w.member(2, 1, 0), 2520);
    }

    private static void rowByColumn() {
        Checks.says("(A times B: row of A, column of B.)");
        for (List<long[][]> set : Groups.sets()) {
            InvariantWorks w = new InvariantWorks();
            int many = Checks.tables(w, Groups.text(set, new Random(3)));
            for (int i = 0; i < many * many; i += 1 + many / 4) {
                sameProduct(w, i / many, i % many);
            }
        }
    }

    private static void sameProduct(InvariantWorks w, int g, int h) {
        int d = w.group(1);
        int both = w.times(g, h);
        for (int row = 0; row < d; row++) {
            for (int column = 0; column < d; column++) {
                long sum = 0;
                for (int i = 0; i < d; i++) {
                    sum += (long) w.member(g, row, i) * w.member(h, i, column);
                }
                due("times(" + g + ", " + h + ")", w.member(both, row, column), sum % 2521);
            }
        }
    }

    private static void most() {
        Checks.says("48 at most");
        InvariantWorks w = Checks.with(CUBE);
        due("48", w.group(0), 48);
        for (int g = 0; g < 48; g++) {
            due("each has an inverse", w.times(g, w.about(g, 0)), 0);
            due("each moves", w.moved(0, g, 0), 0);
        }
        due("the last one", w.about(47, 2) == 1 || w.about(47, 2) == 2520 ? 1 : 0, 1);
        due("none behind it", w.about(48, 2), -1);
        long seven = Groups.root(7);
        due("49", Checks.tables(w, seven + " 0/0 1;1 0/0 " + seven), -2 - 4);
        due("48 stay", w.group(0), 48);
    }

    private static void groupWhat() {
        Checks.says("What 0: MEMBERS, 1: D, 2: TABLES told");
        String all = "";
        for (int many = 1; many <= 4; many++) {
            all += (many == 1 ? "" : ";") + "-1 0 0/0 1 0/0 0 1";
            InvariantWorks w = Checks.with(all);
            due("members", w.group(0), 2);
            due("D", w.group(1), 3);
            due("tables told", w.group(2), many);
        }
        due("D", Checks.with(SWAP).group(1), 2);
    }

    private static void lots() {
        Checks.says("3: how many lots of MEMBERS that are alike (one is another one times a MEMBER, behind that MEMBER's inverse)");
        due("one member", new InvariantWorks().group(3), 1);
        due("two", Checks.with(SWAP).group(3), 2);
        due("orders of three", Checks.with(ALL3).group(3), 3);
        due("of a square", Checks.with("0 1/-1 0;" + SWAP).group(3), 5);
        due("of a cube, 48", Checks.with(CUBE).group(3), 10);
        long i = Groups.root(4);
        due("of eight, where squares are -1", Checks.with(i + " 0/0 -" + i + ";0 1/-1 0").group(3), 5);
        due("45 that go in either order", Checks.with("1 0/0 " + Groups.root(45)).group(3), 45);
    }

    private static void leastPower() {
        Checks.says("4: the least power by which each MEMBER changes nothing");
        due("one member", new InvariantWorks().group(4), 1);
        due("orders of three: 2 and 3 give 6", Checks.with(ALL3).group(4), 6);
        due("signs: 2, not 4", Checks.with("-1 0/0 1;1 0/0 -1").group(4), 2);
        due("of a cube, 48: 12", Checks.with(CUBE).group(4), 12);
        due("45 by one: 45", Checks.with("1 0/0 " + Groups.root(45)).group(4), 45);
        due("2 and 3 apart", Checks.with("-1 0/0 " + Groups.root(3)).group(4), 6);
    }

    private static void eitherOrder() {
        Checks.says("5: 1 all MEMBERS go in either order, 0");
        due("one member", new InvariantWorks().group(5), 1);
        due("signs", Checks.with("-1 0/0 1;1 0/0 -1").group(5), 1);
        due("orders of three", Checks.with(ALL3).group(5), 0);
        due("of a square", Checks.with("0 1/-1 0;" + SWAP).group(5), 0);
    }

    private static void groupOthers() {
        Checks.says("group: NONE: others");
        InvariantWorks w = Checks.with(ALL3);
        for (int what : Checks.outside(5)) {
            due("group(" + what + ")", w.group(what), -1);
        }
    }

    private static void memberOthers() {
        Checks.says("A NUMBER of a MEMBER's row, column (from 0 on); NONE: others");
        String[] texts = {SWAP, "0 1 0/0 0 1/1 0 0"};
        for (String text : texts) {
            InvariantWorks w = Checks.with(text);
            int d = w.group(1);
            int last = w.group(0) - 1;
            due("row 0, column 1", w.member(1, 0, 1), 1);
            due("the last row, column 0", w.member(1, d - 1, 0), 1);
            due("the last corner", w.member(0, d - 1, d - 1), 1);
            Checks.holds("the last member", w.member(last, d - 1, d - 1) >= 0);
            for (int g : Checks.outside(last)) {
                due("member(" + g + ", 0, 0)", w.member(g, 0, 0), -1);
            }
            for (int i : Checks.outside(d - 1)) {
                due("member(0, " + i + ", 0)", w.member(0, i, 0), -1);
                due("member(0, 0, " + i + ")", w.member(0, 0, i), -1);
                due("member(" + last + ", 0, " + i + ")", w.member(last, 0, i), -1);
            }
        }
    }

    private static void timesOthers() {
        Checks.says("Which MEMBER one times another one is; NONE: none such");
        InvariantWorks w = Checks.with(ALL3);
        due("0 times the last", w.times(0, 5), 5);
        due("the last times 0", w.times(5, 0), 5);
        due("1 times 2", w.times(1, 2), 4);
        due("2 times 1", w.times(2, 1), 5);
        for (int g : Checks.outside(5)) {
            due("times(" + g + ", 0)", w.times(g, 0), -1);
            due("times(0, " + g + ")", w.times(0, g), -1);
            due("times(" + g + ", " + g + ")", w.times(g, g), -1);
        }
    }

    private static void aboutWhat() {
        Checks.says("what 0: its inverse, 1: the least power (1 at least) by which it changes nothing, 2: its determinant, 3: the sum of its NUMBERS from the corner down");
        InvariantWorks w = Checks.with("1 0/0 " + Groups.root(45));
        due("member 0: 1 at least", w.about(0, 1), 1);
        due("member 0: its own inverse", w.about(0, 0), 0);
        due("member 0: determinant", w.about(0, 2), 1);
        due("member 0: sum", w.about(0, 3), 2);
        due("member 1: all 45", w.about(1, 1), 45);
        due("member 1: the last is its inverse", w.about(1, 0), 44);
        due("member 44: the first is its inverse", w.about(44, 0), 1);
        due("member 1: determinant", w.about(1, 2), Groups.root(45));
        due("member 9: every ninth", w.about(9, 1), 5);
        w = Checks.with("-1 0 0/0 -1 0/0 0 -1");
        due("-1: determinant", w.about(1, 2), 2520);
        due("-1: sum", w.about(1, 3), 2518);
        w = Checks.with("2520 1/0 1");
        due("2520 and 1 are 0", w.about(1, 3), 0);
        for (List<long[][]> set : Groups.sets()) {
            w = new InvariantWorks();
            int many = Checks.tables(w, Groups.text(set, new Random(4)));
            for (int g = 0; g < many; g++) {
                due("with its inverse", w.times(g, w.about(g, 0)), 0);
                due("behind its inverse", w.times(w.about(g, 0), g), 0);
            }
        }
    }

    private static void aboutOthers() {
        Checks.says("about: NONE: others, none such");
        InvariantWorks w = Checks.with(ALL3);
        for (int g : Checks.outside(5)) {
            for (int what = 0; what < 4; what++) {
                due("about(" + g + ", " + what + ")", w.about(g, what), -1);
            }
        }
        for (int what : Checks.outside(3)) {
            due("about(0, " + what + ")", w.about(0, what), -1);
            due("about(5, " + what + ")", w.about(5, what), -1);
        }
    }

    private static void lastCall() {
        Checks.says("An object is used for at most 512 calls after it has been made");
        InvariantWorks w = new InvariantWorks();
        for (int call = 1; call <= 508; call++) {
            int last = call == 20 ? 0x20202078 : 0x20202020;
            due("call " + call, w.feed(0x20202020, 0x20202020, 0x20202020, 0x20202020, last), call <= 20 ? 20 * call : -1);
        }
        due("call 509", w.polynomial(5, 400), 1);
        due("call 510", w.rewrite(5), 1);
        due("call 511", w.rewritten(0, 1, 0, 0), 1);
        due("call 512", w.count(0), 0);
    }
}
