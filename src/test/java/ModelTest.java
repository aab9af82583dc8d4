import java.lang.reflect.Method;
import java.util.ArrayList;
import java.util.Arrays;
import java.util.HashMap;
import java.util.List;
import java.util.Map;
import java.util.Random;

/**
 * Long runs of calls by lot (ordinary, at the edges, and wild ones), each answer beside the model's.
 * The lots are seeded, so that every run of this test is the same. Promises 1 to 42.
 */
public final class ModelTest {
    private static final int RUNS = 600;
    private static final int CALLS = 512;
    /** Each call with the greatest ordinary value of each of its arguments. */
    private static final String[] CALLS_AND_MOST = {"voter 5 9 3 99", "told 9 9", "as 9 5", "turns 9 5", "set 9 4 99",
        "rule 2 99", "again", "deal 10", "seed 99999", "rounds 100", "conclave 5", "butOne", "decides", "splits 12 6",
        "behind 100 12", "ends", "won 40 9 1", "party 40", "smokes 12", "fits 3 1", "fee", "fine 9",
        "feed 99999 99999 99999", "trim 96", "text", "textTold 13 1", "why 2", "sheet 3 1 24", "mark 3 23 99", "pour 3",
        "reads 3", "copy 3 23 3 23 24", "lay 4 3 9", "ask 4 5", "item 4 23", "rest 4 99", "tell 3", "check 30", "keep",
        "back", "count 9"};
    private static final int[] WILD = {Integer.MIN_VALUE, Integer.MIN_VALUE + 1, -100000, -99999, -32769, -2, -1, 0, 1,
        24, 25, 32768, 65535, 99999, 100000, Integer.MAX_VALUE - 1, Integer.MAX_VALUE, Model.NONE, Model.BAD};
    private static final Map<String, Method> OF_CLASS = methods(SmokeVotes.class);
    private static final Map<String, Method> OF_MODEL = methods(Model.class);

    private final Random lot;
    private final SmokeVotes real = new SmokeVotes();
    private final Model model = new Model();
    private final List<String> log = new ArrayList<>();
    private boolean wrong = false;

    private ModelTest(long seed) {
        lot = new Random(seed);
    }

    public static void main(String[] args) {
        int bad = 0;
        for (int run = 0; run < RUNS && bad < 3; run++) {
            ModelTest test = new ModelTest(run);
            test.go();
            if (test.wrong) {
                bad++;
                System.out.println("run " + run + " went wrong:");
                int from = Math.max(0, test.log.size() - 40);
                test.log.subList(from, test.log.size()).forEach(System.out::println);
            }
        }
        System.out.println(bad == 0 ? "the class and the model agree" : "the class and the model differ");
        System.exit(bad == 0 ? 0 : 1);
    }

    private static Map<String, Method> methods(Class<?> of) {
        Map<String, Method> map = new HashMap<>();
        for (Method method : of.getDeclaredMethods()) {
            map.put(method.getName(), method);
        }
        return map;
    }

    private void go() {
        // Some runs begin as most real ones do, with voters; some stay wild from the first call on.
        if (lot.nextInt(4) != 0) {
            call("seed", lot.nextInt());
            call("deal", 1 + lot.nextInt(10));
        }
        // What stands together (a text, a row that is checked) takes up to some thirty calls.
        while (log.size() < CALLS - 40 && !wrong) {
            switch (lot.nextInt(40)) {
                case 0:
                    tellText(TextLots.text(lot));
                    break;
                case 1:
                    checkRows();
                    break;
                case 2:
                    call("again");
                    call("rounds", 1 + lot.nextInt(14));
                    break;
                default:
                    callAny();
            }
        }
    }

    private void callAny() {
        String[] parts = CALLS_AND_MOST[lot.nextInt(CALLS_AND_MOST.length)].split(" ");
        int[] args = new int[parts.length - 1];
        for (int i = 0; i < args.length; i++) {
            args[i] = argument(Integer.parseInt(parts[i + 1]));
        }
        if (parts[0].equals("mark") && lot.nextInt(6) == 0) {
            args[2] = Model.NONE;
        } else if (parts[0].equals("mark") && lot.nextBoolean()) {
            args[2] %= 6;
        }
        call(parts[0], args);
    }

    private int argument(int most) {
        switch (lot.nextInt(40)) {
            case 0: return WILD[lot.nextInt(WILD.length)];
            case 1: return most + 1;
            case 2: return -1;
            case 3: return most;
            case 4: return 0;
            default: return lot.nextInt(most + 1);
        }
    }

    private void tellText(String text) {
        byte[] bytes = new byte[(text.length() + 11) / 12 * 12];
        for (int i = 0; i < text.length(); i++) {
            bytes[i] = (byte) text.charAt(i);
        }
        call("trim", 0);
        for (int i = 0; i < bytes.length; i += 12) {
            java.nio.ByteBuffer twelve = java.nio.ByteBuffer.wrap(bytes, i, 12);
            call("feed", twelve.getInt(), twelve.getInt(), twelve.getInt());
        }
        call("trim", text.length());
        log.add("  the tape is \"" + text + "\"");
        call("text");
    }

    /** Tells the rows as they are due, at times with a slip, with one too few or with one too many. */
    private void checkRows() {
        call("check", 0);
        call("keep");
        int n = 1 + lot.nextInt(6);
        int slip = lot.nextInt(3 * n);
        for (int i = 1; i <= n; i++) {
            call("tell", model.behind(i, 2) + (slip == i ? 1 : 0));
            call("tell", model.behind(i, 1) + (slip == n + i ? 1 : 0));
        }
        if (lot.nextInt(3) == 0) {
            call("tell", lot.nextInt(3));
        }
        if (lot.nextInt(3) == 0) {
            call("rounds", 1 + lot.nextInt(9));
        }
        call("check", n + (lot.nextInt(4) == 0 ? 1 : 0));
    }

    private void call(String name, int... args) {
        String row = name + Arrays.toString(args);
        log.add(row);
        try {
            int due = answer(OF_MODEL.get(name), model, args);
            int got = answer(OF_CLASS.get(name), real, args);
            log.set(log.size() - 1, row + " = " + got);
            if (got != due) {
                log.add("  due is " + due);
                wrong = true;
            }
        } catch (ReflectiveOperationException e) {
            log.add("  threw " + e.getCause());
            wrong = true;
        }
    }

    private static int answer(Method method, Object object, int[] args) throws ReflectiveOperationException {
        return (Integer) method.invoke(object, Arrays.stream(args).boxed().toArray());
    }
}
