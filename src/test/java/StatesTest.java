import java.util.Arrays;
import java.util.LinkedHashMap;
import java.util.Map;
import java.util.function.Consumer;

/**
 * Every call of the face in every state that the document tells apart (somebody is CHOSEN, THE DAY is
 * 9999, THE TAPE is full, and so on): its answer, and all that can be told behind it, beside the model.
 */
public final class StatesTest {
    private static final int MOST_CALLS = 512;
    private static final Map<String, Consumer<Pair>> STATES = new LinkedHashMap<>();
    private static int looked = 0;
    private static int wrong = 0;

    static {
        STATES.put("new", p -> { });
        STATES.put("ten voters, no round", p -> p.call("deal", 10));
        STATES.put("an odd number of rounds", p -> {
            odd(p);
            p.call("rounds", 3);
        });
        STATES.put("RUN is reached", p -> {
            odd(p);
            p.call("rule", 2, 1);
            p.call("rounds", 1);
        });
        STATES.put("somebody is CHOSEN", StatesTest::chosen);
        STATES.put("somebody is CHOSEN, with sheets, slots and texts", p -> {
            chosen(p);
            sheetsAndSlots(p);
            texts(p, 3);
        });
        STATES.put("z is 0", p -> {
            odd(p);
            p.call("seed", 0);
        });
        STATES.put("z is -1 and all WET is 0", p -> {
            odd(p);
            p.call("seed", -1);
            p.call("sheet", 0, 0, 10);
            p.call("pour", 0);
        });
        STATES.put("THE DAY 9999 without voters", StatesTest::lastDay);
        STATES.put("THE DAY 9999, voters came then", p -> {
            lastDay(p);
            odd(p);
            p.call("keep");
        });
        STATES.put("THE DAY 9998, ten voters and an image", p -> {
            odd(p);
            days(p, 9998);
            p.call("deal", 10);
            p.call("keep");
        });
        STATES.put("14 texts, an image ahead of the last", p -> {
            p.call("deal", 10);
            texts(p, 13);
            p.call("keep");
            texts(p, 1);
            p.call("rounds", 2);
        });
        STATES.put("60 numbers wait, THE TAPE is full", p -> {
            odd(p);
            full(p);
        });
        STATES.put("THE TAPE is a text", p -> {
            odd(p);
            p.feedText(" sway ( r + 1 ) * f ");
        });
        STATES.put("an image, all is otherwise now", p -> {
            odd(p);
            p.call("keep");
            p.call("again");
            p.call("turns", 0, 5);
            p.call("rule", 0, 40);
            p.call("rule", 1, 0);
            p.call("rounds", 2);
        });
        STATES.put("sheets and slots", p -> {
            odd(p);
            sheetsAndSlots(p);
        });
        STATES.put("a new conclave behind a choice", p -> {
            chosen(p);
            p.call("again");
        });
        STATES.put("all at once", p -> {
            chosen(p);
            p.call("deal", 10);
            sheetsAndSlots(p);
            texts(p, 14);
            p.call("keep");
            full(p);
        });
    }

    public static void main(String[] args) {
        STATES.forEach((name, state) -> {
            for (String call : Pair.CALLS_AND_MOST) {
                tryRows(name, state, call.split(" "));
            }
        });
        System.out.println(STATES.size() + " states, " + looked + " calls looked at, " + wrong + " wrong");
        System.exit(wrong == 0 ? 0 : 1);
    }

    /** All arguments at 0, at 1, half way and at their most; then each by itself right outside of that. */
    private static void tryRows(String name, Consumer<Pair> state, String[] call) {
        int n = call.length - 1;
        int[] most = new int[n];
        int[] half = new int[n];
        int[] ones = new int[n];
        for (int i = 0; i < n; i++) {
            most[i] = Integer.parseInt(call[i + 1]);
            half[i] = most[i] / 2;
        }
        Arrays.fill(ones, 1);
        tryCall(name, state, call[0], new int[n]);
        if (n > 0) {
            tryCall(name, state, call[0], ones);
            tryCall(name, state, call[0], half);
            tryCall(name, state, call[0], most);
        }
        for (int i = 0; i < n; i++) {
            int[] below = ones.clone();
            below[i] = -1;
            tryCall(name, state, call[0], below);
            int[] above = ones.clone();
            above[i] = most[i] + 1;
            tryCall(name, state, call[0], above);
        }
    }

    private static void tryCall(String name, Consumer<Pair> state, String call, int[] args) {
        Pair pair = new Pair();
        state.accept(pair);
        pair.call(call, args);
        tellAll(pair);
        looked++;
        if (pair.calls > MOST_CALLS) {
            pair.log.add("  more calls than an object has: " + pair.calls);
            pair.wrong = true;
        }
        if (pair.wrong) {
            wrong++;
            System.out.println("[" + name + "] " + call + Arrays.toString(args) + " went wrong:");
            pair.log.stream().filter(row -> row.startsWith("  ")).limit(5).forEach(System.out::println);
        }
    }

    // ---- parts of states

    private static void odd(Pair p) {
        p.call("voter", 0, 1, 0, 20);
        p.call("voter", 1, 0, 1, 30);
        p.call("voter", 2, 3, 0, 60);
        p.call("voter", 3, 2, 2, 70);
        p.call("voter", 4, 5, 1, 45);
        p.call("voter", 5, 3, 3, 9);
        p.call("rounds", 1);
    }

    private static void chosen(Pair p) {
        p.call("voter", 0, 1, 0, 20);
        p.call("voter", 5, 1, 2, 99);
        p.call("voter", 2, 0, 3, 0);
        p.call("rounds", 1);
    }

    private static void lastDay(Pair p) {
        days(p, 9999);
    }

    private static void days(Pair p, int last) {
        for (int day = p.model.count(1); day < last; day = p.model.count(1)) {
            p.call("rounds", Math.min(100, last - day));
        }
    }

    private static void texts(Pair p, int n) {
        String[] texts = {"sway r*3", "fee r+w*2", "fine f-w"};
        for (int i = 0; i < n; i++) {
            p.tellText(texts[i % 3]);
        }
    }

    private static void full(Pair p) {
        while (p.model.count(7) < 60) {
            p.call("tell", p.model.count(7) % 4);
        }
        while (p.model.count(8) < 96) {
            p.call("feed", 0x66656520, 0x722A3220, 0x20202020);
        }
    }

    private static void sheetsAndSlots(Pair p) {
        p.call("sheet", 0, 0, 10);
        p.call("sheet", 1, 1, 24);
        p.call("sheet", 2, 1, 0);
        p.call("mark", 0, 0, 7);
        p.call("mark", 1, 0, Model.NONE);
        p.call("mark", 1, 1, 2);
        p.call("lay", 0, 1, 2);
        p.call("lay", 1, 2, 1);
        p.call("lay", 2, 3, -50);
    }

    // ---- all that can be told

    private static void tellAll(Pair p) {
        for (int what = 0; what <= 9; what++) {
            p.call("count", what);
        }
        for (int what = 0; what <= 5; what++) {
            p.call("conclave", what);
        }
        for (int v = 0; v < p.model.count(0); v++) {
            for (int what = 0; what <= 7; what++) {
                p.call("told", v, what);
            }
        }
        for (int key = 0; key < 3; key++) {
            p.call("why", key);
        }
        p.call("fee");
        p.call("fine", 0);
        p.call("smokes", 4);
        tellSlots(p);
        tellSheets(p);
        p.call("text");
        p.call("check", 2);
        p.call("count", 7);
        p.call("back");
        for (int what = 0; what <= 9; what++) {
            p.call("count", what);
        }
        p.call("conclave", 2);
        p.call("smokes", 4);
    }

    private static void tellSlots(Pair p) {
        for (int slot = 0; slot < 5; slot++) {
            p.call("ask", slot, 0);
            p.call("rest", slot, 7);
            p.call("item", slot, 0);
            p.call("item", slot, 1);
        }
    }

    private static void tellSheets(Pair p) {
        for (int sheet = 0; sheet < 4; sheet++) {
            p.call("lay", 4, 2, sheet);
            p.call("reads", sheet);
            for (int place : new int[] {0, 1, 2, 9, 12, 23}) {
                p.call("item", 4, place);
            }
        }
    }
}
