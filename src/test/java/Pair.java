import java.lang.reflect.Method;
import java.nio.ByteBuffer;
import java.util.ArrayList;
import java.util.Arrays;
import java.util.HashMap;
import java.util.List;
import java.util.Map;

/** An object of the class and one of the model that get the same calls, each answer beside the other's. */
final class Pair {
    /** Each call with the greatest ordinary value of each of its arguments. */
    static final String[] CALLS_AND_MOST = {"voter 5 9 3 99", "told 9 9", "as 9 5", "turns 9 5", "set 9 4 99",
        "rule 2 99", "again", "deal 10", "seed 99999", "rounds 100", "conclave 5", "butOne", "decides", "splits 12 6",
        "behind 100 12", "ends", "won 40 9 1", "party 40", "smokes 12", "fits 3 1", "fee", "fine 9",
        "feed 99999 99999 99999", "trim 96", "text", "textTold 13 1", "why 2", "sheet 3 1 24", "mark 3 23 99", "pour 3",
        "reads 3", "copy 3 23 3 23 24", "lay 4 3 9", "ask 4 5", "item 4 23", "rest 4 99", "tell 3", "check 30", "keep",
        "back", "count 9"};
    private static final Map<String, Method> OF_CLASS = methods(SmokeVotes.class);
    private static final Map<String, Method> OF_MODEL = methods(Model.class);

    final SmokeVotes real = new SmokeVotes();
    final Model model = new Model();
    final List<String> log = new ArrayList<>();
    boolean wrong = false;
    int calls = 0;

    private static Map<String, Method> methods(Class<?> of) {
        Map<String, Method> map = new HashMap<>();
        for (Method method : of.getDeclaredMethods()) {
            map.put(method.getName(), method);
        }
        return map;
    }

    void call(String name, int... args) {
        calls++;
        String row = name + Arrays.toString(args);
        log.add(row);
        try {
            int due = answer(OF_MODEL.get(name), model, args);
            int got = answer(OF_CLASS.get(name), real, args);
            log.set(log.size() - 1, row + " = " + got);
            if (got != due) {
                log.add("  due is " + due);
                wrong = true;
            }
        } catch (ReflectiveOperationException e) {
            log.add("  threw " + e.getCause());
            wrong = true;
        }
    }

    private static int answer(Method method, Object object, int[] args) throws ReflectiveOperationException {
        return (Integer) method.invoke(object, Arrays.stream(args).boxed().toArray());
    }

    void feedText(String text) {
        byte[] bytes = new byte[(text.length() + 11) / 12 * 12];
        for (int i = 0; i < text.length(); i++) {
            bytes[i] = (byte) text.charAt(i);
        }
        call("trim", 0);
        for (int i = 0; i < bytes.length; i += 12) {
            ByteBuffer twelve = ByteBuffer.wrap(bytes, i, 12);
            call("feed", twelve.getInt(), twelve.getInt(), twelve.getInt());
        }
        call("trim", text.length());
        log.add("  the tape is \"" + text + "\"");
    }

    void tellText(String text) {
        feedText(text);
        call("text");
    }

    void printEnd(int rows) {
        log.subList(Math.max(0, log.size() - rows), log.size()).forEach(System.out::println);
    }
}
