import java.util.Random;

/**
 * Long runs of calls by lot (ordinary, at the edges, and wild ones), each answer beside the model's.
 * The lots are seeded, so that every run of this test is the same. Promises 1 to 42.
 */
public final class ModelTest {
    private static final int RUNS = 600;
    private static final int CALLS = 512;
    private static final int[] WILD = {Integer.MIN_VALUE, Integer.MIN_VALUE + 1, -100000, -99999, -32769, -2, -1, 0, 1,
        24, 25, 32768, 65535, 99999, 100000, Integer.MAX_VALUE - 1, Integer.MAX_VALUE, Model.NONE, Model.BAD};

    private final Random lot;
    private final Pair pair = new Pair();

    private ModelTest(long seed) {
        lot = new Random(seed);
    }

    public static void main(String[] args) {
        int bad = 0;
        for (int run = 0; run < RUNS && bad < 3; run++) {
            ModelTest test = new ModelTest(run);
            test.go();
            if (test.pair.wrong) {
                bad++;
                System.out.println("run " + run + " went wrong:");
                test.pair.printEnd(40);
            }
        }
        System.out.println(bad == 0 ? "the class and the model agree" : "the class and the model differ");
        System.exit(bad == 0 ? 0 : 1);
    }

    private void go() {
        // Some runs begin as most real ones do, with voters; some stay wild from the first call on.
        if (lot.nextInt(4) != 0) {
            pair.call("seed", lot.nextInt());
            pair.call("deal", 1 + lot.nextInt(10));
        }
        // What stands together (a text, a row that is checked) takes up to some thirty calls.
        while (pair.calls < CALLS - 40 && !pair.wrong) {
            switch (lot.nextInt(40)) {
                case 0:
                    pair.tellText(TextLots.text(lot));
                    break;
                case 1:
                    checkRows();
                    break;
                case 2:
                    pair.call("again");
                    pair.call("rounds", 1 + lot.nextInt(14));
                    break;
                default:
                    callAny();
            }
        }
    }

    private void callAny() {
        String[] parts = Pair.CALLS_AND_MOST[lot.nextInt(Pair.CALLS_AND_MOST.length)].split(" ");
        int[] args = new int[parts.length - 1];
        for (int i = 0; i < args.length; i++) {
            args[i] = argument(Integer.parseInt(parts[i + 1]));
        }
        if (parts[0].equals("mark") && lot.nextInt(6) == 0) {
            args[2] = Model.NONE;
        } else if (parts[0].equals("mark") && lot.nextBoolean()) {
            args[2] %= 6;
        }
        pair.call(parts[0], args);
    }

    private int argument(int most) {
        switch (lot.nextInt(40)) {
            case 0: return WILD[lot.nextInt(WILD.length)];
            case 1: return most + 1;
            case 2: return -1;
            case 3: return most;
            case 4: return 0;
            default: return lot.nextInt(most + 1);
        }
    }

    /** Tells the rows as they are due, at times with a slip, with one too few or with one too many. */
    private void checkRows() {
        pair.call("check", 0);
        pair.call("keep");
        int n = 1 + lot.nextInt(6);
        int slip = lot.nextInt(3 * n);
        for (int i = 1; i <= n; i++) {
            pair.call("tell", pair.model.behind(i, 2) + (slip == i ? 1 : 0));
            pair.call("tell", pair.model.behind(i, 1) + (slip == n + i ? 1 : 0));
        }
        if (lot.nextInt(3) == 0) {
            pair.call("tell", lot.nextInt(3));
        }
        if (lot.nextInt(3) == 0) {
            pair.call("rounds", 1 + lot.nextInt(9));
        }
        pair.call("check", n + (lot.nextInt(4) == 0 ? 1 : 0));
    }
}
