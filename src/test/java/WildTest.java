import java.lang.reflect.InvocationTargetException;
import java.lang.reflect.Method;
import java.lang.reflect.Modifier;
import java.util.Arrays;

/**
 * No call ever throws or fails to end, for any arguments in any state: every call of the face with
 * every row of wild arguments, on objects that are new, rich and full, one call behind the other.
 */
public final class WildTest {
    private static final int[] WILD = {Integer.MIN_VALUE, -100000, -1, 0, 1, 3, 9, 24, 100, 65536, Integer.MAX_VALUE,
        SmokeVotes.NONE};
    /** An object is made anew ahead of its 512th call, the calls that made it being counted in. */
    private static final int CALLS_EACH = 150;
    private static long calls = 0;
    private static int wrong = 0;

    public static void main(String[] args) throws IllegalAccessException {
        Edges.State[] states = {SmokeVotes::new, Edges::rich, Edges::full};
        for (Method method : SmokeVotes.class.getDeclaredMethods()) {
            if (Modifier.isPublic(method.getModifiers())) {
                for (Edges.State state : states) {
                    tryAll(method, state);
                }
            }
        }
        System.out.println(calls + " wild calls, " + wrong + " of them threw");
        System.exit(wrong == 0 ? 0 : 1);
    }

    private static void tryAll(Method method, Edges.State state) throws IllegalAccessException {
        int n = method.getParameterCount();
        int rows = 1;
        for (int i = 0; i < n; i++) {
            rows *= WILD.length;
        }
        SmokeVotes x = state.made();
        for (int row = 0; row < rows; row++) {
            if (row % CALLS_EACH == CALLS_EACH - 1) {
                x = state.made();
            }
            Object[] with = new Object[n];
            int left = row;
            for (int i = 0; i < n; i++) {
                with[i] = WILD[left % WILD.length];
                left /= WILD.length;
            }
            call(method, x, with);
        }
    }

    private static void call(Method method, SmokeVotes x, Object[] with) throws IllegalAccessException {
        calls++;
        try {
            method.invoke(x, with);
        } catch (InvocationTargetException e) {
            wrong++;
            System.out.println(method.getName() + Arrays.toString(with) + " threw " + e.getCause());
        }
    }
}
