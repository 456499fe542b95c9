import java.lang.reflect.InvocationTargetException;
import java.lang.reflect.Method;
import java.util.ArrayList;
import java.util.Arrays;
import java.util.HashMap;
import java.util.List;
import java.util.Map;

/** A TiedRow and the plain Model beside it: each call goes to both, and all that they tell is to be alike. */
final class Pair {
    private static final Map<String, Method> PROGRAM = methodsOf(TiedRow.class), MODEL = methodsOf(Model.class);
    private static final int SHOWN_MOST = 12;

    final TiedRow program = new TiedRow();
    final Model model = new Model();
    private final Check check;
    private final String name;
    private final List<String> done = new ArrayList<>();
    private boolean alike = true;

    Pair(String name, Check check) {
        this.name = name;
        this.check = check;
    }

    private static Map<String, Method> methodsOf(Class<?> type) {
        Map<String, Method> out = new HashMap<>();
        for (Method method : type.getDeclaredMethods()) {
            boolean ofInts = Arrays.stream(method.getParameterTypes()).allMatch(each -> each == int.class);
            if (ofInts) {
                method.setAccessible(true);
                out.put(method.getName() + method.getParameterCount(), method);
            }
        }
        return out;
    }

    /** Behind the first answer that is unlike, the rest of a run tells nothing. */
    boolean isAlike() {
        return alike;
    }

    void call(String call, int... numbers) {
        done.add(call + Arrays.toString(numbers));
        same(call, answer(PROGRAM, program, call, numbers), answer(MODEL, model, call, numbers));
        same("asked", program.asked(), model.asked());
        same("upper", program.upper(), model.upper());
        same("lower", program.lower(), model.lower());
        same("finding", program.finding(), model.finding());
        for (int f = 1; f <= 5; f++) {
            same("findings", program.findings(f), model.findings(f));
        }
        same("digest", program.digest(), model.digest());
    }

    /** Writes a text into both, without looking at each byte on its way. */
    void write(int t, String signs) {
        call("text", t, signs.length());
        for (int i = 0; i < signs.length(); i++) {
            same("put", program.put(t, i, signs.charAt(i)), model.put(t, i, signs.charAt(i)));
        }
        done.add("write " + t + " '" + signs + "'");
    }

    /** Lays numbers into a row of both. */
    void layRow(int r, int... values) {
        program.row(r, values.length);
        model.row(r, values.length);
        for (int i = 0; i < values.length; i++) {
            same("lay", program.lay(r, i, values[i]), model.lay(r, i, values[i]));
        }
        done.add("row " + r + " " + Arrays.toString(values));
    }

    private void same(String what, long got, long want) {
        if (got != want && alike) {
            alike = false;
            int from = Math.max(0, done.size() - SHOWN_MOST);
            System.out.println(name + ", things " + model.count(0) + ": .. " + done.subList(from, done.size()));
        }
        check.due(what, got, want);
    }

    private static long answer(Map<String, Method> methods, Object on, String call, int[] numbers) {
        Method method = methods.get(call + numbers.length);
        if (method == null) {
            throw new IllegalStateException(call);
        }
        try {
            return ((Number) method.invoke(on, Arrays.stream(numbers).boxed().toArray())).longValue();
        } catch (IllegalAccessException e) {
            throw new IllegalStateException(e);
        } catch (InvocationTargetException e) {
            e.getCause().printStackTrace(System.out);
            return Long.MIN_VALUE;
        }
    }
}
