import java.lang.reflect.InvocationTargetException;
import java.lang.reflect.Method;
import java.util.ArrayList;
import java.util.Arrays;
import java.util.Comparator;
import java.util.List;

/**
 * Every call with every choice of the numbers at the document's bounds and far beyond them, on objects that are new, rich
 * and full: the class must answer as the plain model does, and be left as the model is.
 */
public final class GridTests {
    private static final long[] INTS = {Integer.MIN_VALUE, -1001, -3, -2, -1, 0, 1, 2, 3, 4, 5, 6, 7, 8, 9, 10, 11, 12, 13, 16,
        17, 31, 32, 58, 59, 60, 63, 64, 99, 100, 101, 127, 199, 200, 201, 255, 499, 500, 501, 999, 2999, 3000, 3001, 4095,
        4096, Integer.MAX_VALUE};
    private static final long[] FEWER = {Integer.MIN_VALUE, -2, -1, 0, 1, 2, 3, 5, 6, 8, 10, 11, 12, 16, 17, 59, 60, 100, 200,
        201, 3000, Integer.MAX_VALUE};
    private static final long[] FEWEST = {Integer.MIN_VALUE, -2, -1, 0, 1, 2, 3, 4, 10, 11, 16, 17, Integer.MAX_VALUE};
    private static final long[] LONGS = {Long.MIN_VALUE, -1, 0, 1, 1L << 31, 1L << 32, 1L << 59, (1L << 60) - 1, 1L << 60,
        1L << 62, Long.MAX_VALUE};
    /** An object is used for 512 calls; the fullest scene takes some 160. */
    private static final int CALLS_A_SCENE = 300;
    private static final Checks check = new Checks();

    private final Object[][] script;
    private KeptPages x;
    private PlainModel m;
    private int calls;

    private GridTests(Object[][] script) {
        this.script = script;
    }

    public static void main(String[] args) throws ReflectiveOperationException {
        for (Object[][] script : new Object[][][] {{}, rich(), full()}) {
            GridTests grid = new GridTests(script);
            Method[] face = KeptPages.class.getDeclaredMethods();
            Arrays.sort(face, Comparator.comparing(Method::getName));
            for (Method method : face) {
                if (java.lang.reflect.Modifier.isPublic(method.getModifiers())) {
                    grid.anew();
                    grid.fill(method, new Object[method.getParameterCount()], 0);
                }
            }
        }
        check.end("GridTests");
    }

    /** Some of everything; NOW is 16, and a text of eight bytes waits. */
    private static Object[][] rich() {
        List<Object[]> calls = new ArrayList<>();
        for (int door : new int[] {0, 1, 0, 5, 4}) calls.add(new Object[] {"page", door});
        text(calls, "let 0 each 2;never 4;night 5;patience 9;clothes 3;");
        calls.add(new Object[] {"read"});
        for (int i = 0; i < 12; i++) {
            calls.add(new Object[] {"look", i % 4, i % 7 == 3 ? 1 : i % 7 == 5 ? 2 : 0, 3L << i % 3 | 1L << 59, -1});
            calls.add(new Object[] {"look", i % 3, 0, 5L << i % 4, Math.max(-1, i - 4)});
            calls.add(new Object[] {"go", i % 3});
        }
        calls.add(new Object[] {"go", 4});
        for (int l : new int[] {2, 9}) calls.add(new Object[] {"take", l});
        for (int l = 0; l < 6; l++) calls.add(new Object[] {"part", l});
        text(calls, "row 5 by 2 times 3;ever 1 by 1;");
        calls.add(new Object[] {"program", 1});
        for (int i = 0; i < 5; i++) calls.add(new Object[] {"lose", i % 3, i * i % 4});
        text(calls, "night 77;");
        calls.add(new Object[] {"read"});
        text(calls, "link 3; ");
        return calls.toArray(new Object[0][]);
    }

    /** As much of all as there may be, but for the hour. */
    private static Object[][] full() {
        List<Object[]> calls = new ArrayList<>();
        for (int p = 0; p < 12; p++) calls.add(new Object[] {"page", p % 6});
        for (int l = 0; l < 100; l++) {
            if (l > 0 && l % 6 == 0) calls.add(new Object[] {"go", 1});
            calls.add(new Object[] {"look", l % 12, l % 31 == 30 ? 1 : 0, 1L << l % 60 | l % 3, -1});
        }
        for (int l = 0; l < 8; l++) calls.add(new Object[] {"part", l});
        text(calls, " ".repeat(200));
        return calls.toArray(new Object[0][]);
    }

    private static void text(List<Object[]> calls, String text) {
        for (int i = 0; i < text.length(); i += 8) {
            String bytes = text.substring(i, Math.min(text.length(), i + 8));
            calls.add(new Object[] {"feed", bytes.length(), Checks.bytes(bytes)});
        }
    }

    private void anew() throws ReflectiveOperationException {
        x = new KeptPages();
        m = new PlainModel();
        calls = 0;
        for (Object[] call : script) {
            Object[] numbers = Arrays.copyOfRange(call, 1, call.length);
            for (Method method : KeptPages.class.getDeclaredMethods()) {
                if (method.getName().equals(call[0])) compare(method, numbers);
            }
        }
    }

    private void fill(Method method, Object[] numbers, int at) throws ReflectiveOperationException {
        if (at == numbers.length) {
            ask(method, numbers);
            return;
        }
        if (method.getParameterTypes()[at] == long.class) {
            for (long number : LONGS) {
                numbers[at] = number;
                fill(method, numbers, at + 1);
            }
            return;
        }
        for (long number : numbers.length < 3 ? INTS : numbers.length == 3 ? FEWER : FEWEST) {
            numbers[at] = (int) number;
            fill(method, numbers, at + 1);
        }
    }

    private void ask(Method method, Object[] numbers) throws ReflectiveOperationException {
        if (compare(method, numbers) || calls > CALLS_A_SCENE) {
            for (int what = 0; what <= 10; what++) check.due("count(" + what + ")", x.count(what), m.count(what));
            for (int what = 0; what <= 8; what++) check.due("right(" + what + ")", x.right(what), m.right(what));
            check.due("fault()", x.fault(), m.fault());
            check.due("nowhere()", x.nowhere(), m.nowhere());
            anew();
        }
    }

    /** Answers whether the call may have changed the objects. */
    private boolean compare(Method method, Object[] numbers) throws ReflectiveOperationException {
        calls++;
        Method plain = PlainModel.class.getDeclaredMethod(method.getName(), method.getParameterTypes());
        long want = ((Number) plain.invoke(m, numbers)).longValue();
        String call = method.getName() + Arrays.toString(numbers);
        try {
            check.due(call, ((Number) method.invoke(x, numbers)).longValue(), want);
        } catch (InvocationTargetException e) {
            check.holds(call + " threw " + e.getCause(), false);
        }
        boolean changes = List.of("go", "page", "look", "take", "feed", "read", "program", "part", "wipe", "lose", "mend")
            .contains(method.getName());
        return changes && (want > KeptPages.UNKNOWN || calls > CALLS_A_SCENE);
    }
}
