import java.lang.reflect.Method;
import java.util.Arrays;
import java.util.HashMap;
import java.util.List;
import java.util.Map;

/** An object of the class, its calls told by name; it counts them, as an object is good for 512 only. */
final class Calls {
    private static final int MOST_CALLS = 512;
    private static final Map<String, Method> METHODS = new HashMap<>();

    static {
        for (Method m : EveryTwentyMinutes.class.getDeclaredMethods()) METHODS.put(m.getName(), m);
    }

    /** A call by name, with its numbers. */
    record Call(String name, List<Integer> numbers) {
        Call(String name, int... numbers) { this(name, Arrays.stream(numbers).boxed().toList()); }

        @Override public String toString() {
            String s = numbers.toString();
            return name + "(" + s.substring(1, s.length() - 1) + ")";
        }
    }

    private final EveryTwentyMinutes x = new EveryTwentyMinutes();
    private int many = 0;

    static boolean isOne(String name) { return METHODS.containsKey(name); }

    long answer(Call call) {
        if (++many > MOST_CALLS) throw new IllegalStateException("more than 512 calls");
        try {
            Method m = METHODS.get(call.name());
            m.setAccessible(true);
            return ((Number) m.invoke(x, call.numbers().toArray())).longValue();
        } catch (ReflectiveOperationException e) {
            throw new IllegalStateException(call.toString(), e);
        }
    }

    long answer(String name, int... numbers) { return answer(new Call(name, numbers)); }

    void all(List<Call> calls) { for (Call c : calls) answer(c); }
}
