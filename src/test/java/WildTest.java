import java.lang.management.ManagementFactory;
import java.util.List;
import java.util.NoSuchElementException;
import java.util.Random;

/** Calls with any arguments in any state: nothing but what the document names is thrown, and the room is enough. */
public final class WildTest {
    private static final int CALLS = 512;
    /** 7.3 million elements of four bytes. */
    private static final long ROOM = 4 * 7300000L;

    private final Random random;
    private final InvariantWorks works = new InvariantWorks();
    private List<List<long[][]>> sets;

    private WildTest(long seed, List<List<long[][]>> sets) {
        random = new Random(seed);
        this.sets = sets;
    }

    public static void main(String[] args) {
        int runs = args.length > 0 ? Integer.parseInt(args[0]) : 150;
        List<List<long[][]>> sets = Groups.sets();
        for (int seed = 0; seed < runs; seed++) {
            new WildTest(seed, sets).run(seed);
        }
        room(sets);
        Checks.end();
    }

    private int any() {
        switch (random.nextInt(8)) {
            case 0:
                return random.nextInt();
            case 1:
                return random.nextBoolean() ? Integer.MIN_VALUE : Integer.MAX_VALUE;
            case 2:
                return random.nextInt(64) - 8;
            default:
                return random.nextInt(7) - random.nextInt(2);
        }
    }

    private void run(int seed) {
        for (int i = 0; i < CALLS; i++) {
            int which = random.nextInt(25);
            try {
                call(which);
            } catch (NoSuchElementException none) {
                Checks.holds("seed " + seed + " call " + i + ": only term() throws", which == 9);
            } catch (RuntimeException wrong) {
                System.out.println("seed " + seed + " call " + i + " of kind " + which + ": " + wrong);
                Checks.holds("nothing else is thrown", false);
            }
        }
        Checks.holds("seed " + seed, true);
    }

    private void tell() {
        if (random.nextInt(3) == 0) {
            Checks.tables(works, Groups.text(sets.get(random.nextInt(sets.size())), random));
        } else {
            String[] texts = {"x", "x+y", "x*y", "(x+y+1)^7", "(x^2+y^2)^3", "x^15+y", "(x+y+z)^4*x", "(x-2*y+3*z+1)^15", "1/", "x^3+y^3+z^3", "x*y*z"};
            Checks.polynomial(works, random.nextInt(6), texts[random.nextInt(texts.length)]);
        }
    }

    private void call(int which) {
        switch (which) {
            case 0:
                works.feed(any(), any(), any(), any(), any());
                break;
            case 1:
                works.tables(any());
                break;
            case 2:
                works.polynomial(any(), any());
                break;
            case 3:
                works.group(any());
                break;
            case 4:
                works.member(any(), any(), any());
                break;
            case 5:
                works.times(any(), any());
                break;
            case 6:
                works.about(any(), any());
                break;
            case 7:
                works.of(any(), any());
                break;
            case 8:
                works.factor(any(), any(), any(), any());
                break;
            case 9:
                works.term(any(), any(), any());
                break;
            case 10:
                works.moved(any(), any(), any());
                break;
            case 11:
                works.average(any(), any());
                break;
            case 12:
                works.plus(any(), any(), any(), any());
                break;
            default:
                more(which);
        }
    }

    private void more(int which) {
        switch (which) {
            case 13:
                works.product(any(), any(), any());
                break;
            case 14:
                works.series(any());
                break;
            case 15:
                works.base(any(), any(), any());
                break;
            case 16:
                works.isSystem(any(), any(), any());
                break;
            case 17:
                works.primary(any(), any());
                break;
            case 18:
                works.secondary(any(), any());
                works.secondaries();
                break;
            case 19:
                works.numerator(any());
                break;
            case 20:
                works.rewrite(any());
                break;
            case 21:
                works.rewritten(any(), any(), any(), any());
                break;
            case 22:
                works.relation(any(), any(), any(), any(), any(), any());
                break;
            case 23:
                works.count(any());
                break;
            default:
                tell();
        }
    }

    /** What four objects make, each going through groups with calls as dear as they can be. */
    private static void room(List<List<long[][]>> sets) {
        com.sun.management.ThreadMXBean threads = (com.sun.management.ThreadMXBean) ManagementFactory.getThreadMXBean();
        long made = 0;
        Random random = new Random(5);
        for (int object = 0; object < 4; object++) {
            long before = threads.getCurrentThreadAllocatedBytes();
            InvariantWorks works = new InvariantWorks();
            made += threads.getCurrentThreadAllocatedBytes() - before;
            int calls = 0;
            for (int i = 0; calls < CALLS; i++) {
                String text = Groups.text(sets.get((41 * i + 65) % sets.size()), random);
                int[][] words = Checks.words(Checks.bytes(text));
                before = threads.getCurrentThreadAllocatedBytes();
                for (int[] w : words) {
                    works.feed(w[0], w[1], w[2], w[3], w[4]);
                }
                works.tables(text.length());
                works.feed(0x28312B78, 0x2B792920, 0x5E313520, 0x20202020, 0x20202020);
                works.polynomial(0, 20);
                works.average(0, 1);
                works.rewrite(1);
                works.relation(1, 1, 0, 0, 0, 0);
                works.base(15, 0, 2);
                works.isSystem(0, 1, 2);
                made += threads.getCurrentThreadAllocatedBytes() - before;
                calls += words.length + 8;
            }
        }
        System.out.println("four objects made " + made + " bytes");
        Checks.holds("the room is enough: " + made, made < ROOM);
    }
}
