import java.util.Random;

/** Any calls with any arguments: a call throws what its face tells, just that class, or nothing. Seeds are fixed. */
public final class WildTest {
    private static final Check CHECK = new Check();
    private static final int[] EDGES = {
        -1, -2, -3, 0, 1, 2, 3, 4, 5, 6, 7, 8, 99, 100, 128, 255, 256, 4096, 5999, 6000, 6001,
        Integer.MAX_VALUE, Integer.MIN_VALUE, Integer.MAX_VALUE - 1, 1 << 30,
    };

    private final Random random;
    private final PolicyJudge judge = new PolicyJudge();

    private WildTest(long seed) {
        random = new Random(seed);
    }

    public static void main(String[] args) {
        for (int seed = 0; seed < 400; seed++) {
            new WildTest(seed).run();
        }
        CHECK.finish("WildTest");
    }

    private void run() {
        TextMaker maker = new TextMaker(random);
        for (int turn = 0; turn < 500; turn++) {
            int which = random.nextInt(Calls.NAMES.length + 1);
            if (which == Calls.NAMES.length) {
                String text = maker.text(maker.attributes(true), false);
                if (random.nextInt(4) == 0) {
                    text = maker.spoilt(text);
                }
                Check.load(judge, random.nextInt(2), text);
                continue;
            }
            Class<?> thrown = Calls.refusal(judge, which, any(), any(), any(), any());
            CHECK.due(Calls.NAMES[which] + " threw " + thrown, thrown == null || Calls.mayThrow(which, thrown) ? 1 : 0, 1);
        }
    }

    private int any() {
        return random.nextInt(10) == 0 ? random.nextInt() : random.nextInt(3) > 0 ? random.nextInt(4) : EDGES[random.nextInt(EDGES.length)];
    }
}
