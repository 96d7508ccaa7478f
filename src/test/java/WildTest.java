import java.util.Random;
import java.util.Set;

/** Any calls with any arguments: a call throws what its face tells, just that class, or nothing. Seeds are fixed. */
public final class WildTest {
    private static final Check CHECK = new Check();
    private static final int[] EDGES = {
        -1, -2, -3, 0, 1, 2, 3, 4, 5, 6, 7, 8, 99, 100, 128, 255, 256, 4096, 5999, 6000, 6001,
        Integer.MAX_VALUE, Integer.MIN_VALUE, Integer.MAX_VALUE - 1, 1 << 30,
    };

    private final Random random;
    private final PolicyJudge judge = new PolicyJudge();

    private WildTest(long seed) {
        random = new Random(seed);
    }

    public static void main(String[] args) {
        for (int seed = 0; seed < 400; seed++) {
            new WildTest(seed).run();
        }
        CHECK.finish("WildTest");
    }

    private void run() {
        TextMaker maker = new TextMaker(random);
        for (int turn = 0; turn < 500; turn++) {
            int which = random.nextInt(22);
            if (which == 21) {
                String text = maker.text(maker.attributes(true), false);
                if (random.nextInt(4) == 0) {
                    text = maker.spoilt(text);
                }
                Check.load(judge, random.nextInt(2), text);
                continue;
            }
            Class<?> thrown = call(which);
            CHECK.due("call " + which + " threw " + thrown, thrown == null || allowed(which).contains(thrown) ? 1 : 0, 1);
        }
    }

    private Class<?> call(int which) {
        try {
            make(which, any(), any(), any(), any());
            return null;
        } catch (RuntimeException e) {
            return e.getClass();
        }
    }

    private int any() {
        return random.nextInt(10) == 0 ? random.nextInt() : random.nextInt(3) > 0 ? random.nextInt(4) : EDGES[random.nextInt(EDGES.length)];
    }

    private static Set<Class<?>> allowed(int which) {
        switch (which) {
            case 0:
            case 14:
            case 20:
                return Set.of(IllegalStateException.class);
            case 1:
                return Set.of(IllegalArgumentException.class);
            case 3:
                return Set.of();
            case 8:
                return Set.of(IndexOutOfBoundsException.class, IllegalArgumentException.class);
            case 9:
            case 15:
            case 18:
                return Set.of(IndexOutOfBoundsException.class, IllegalStateException.class);
            default:
                return Set.of(IndexOutOfBoundsException.class);
        }
    }

    private int make(int which, int a, int b, int c, int d) {
        switch (which) {
            case 0: return judge.feed(a, b, c, d, a);
            case 1: judge.end(a); return 0;
            case 2: return judge.load(a);
            case 3: return judge.fault();
            case 4: return judge.count(a, b);
            case 5: return judge.node(a, b, c);
            case 6: return judge.name(a, b, c, d);
            case 7: return judge.attribute(a, b, c);
            case 8: return judge.bag(a, b, c);
            case 9: return judge.decide(a);
            case 10: return judge.decided(a, b);
            case 11: return judge.truth(a, b);
            case 12: return judge.duty(a, b);
            case 14: return judge.same();
            case 15: return judge.differ(a, b);
            case 16: return judge.reach(a, b, c);
            case 17: return judge.witness(a);
            case 18: return judge.print(a);
            case 19: return judge.out(a);
            case 20: return judge.again();
            default: return judge.load(0);
        }
    }
}
