import java.lang.reflect.InvocationTargetException;
import java.lang.reflect.Method;
import java.lang.reflect.Modifier;
import java.util.ArrayList;
import java.util.List;
import java.util.Random;

/** Any numbers in any state: no call throws (LANGUAGE.md, rule 7), and each answer is one that can be. */
public final class Wild {
    private static final long[] NUMBERS = {Long.MIN_VALUE, Integer.MIN_VALUE, Integer.MIN_VALUE + 1, -1000, -29, -28, -10, -9,
        -8, -7, -6, -5, -4, -3, -2, -1, 0, 1, 2, 3, 4, 5, 6, 7, 8, 9, 10, 11, 12, 16, 17, 26, 27, 28, 29, 31, 32, 33, 63, 64,
        65, 99, 100, 127, 128, 255, 256, 300, 301, 9999, 10000, 1 << 28, 1 << 30, Integer.MAX_VALUE - 1, Integer.MAX_VALUE,
        Long.MAX_VALUE};
    private static final String[] TEXTS = {"po11;pt22;", "h00-27;", "h110-20;", "w0r1,27,50,1;", "w1s3,20,99,2;", "w0r6,27,9,1;",
        "pk31;ps40;", "pj50;py60;pn70;", "h20-9;h35-27;", "w2s6,27,30,3;w3r2,14,80,0;", "w0r3,2,9,9;", "po00;"};

    private final Due due = new Due();
    private final Random random = new Random(20261118);
    private final List<Method> calls = new ArrayList<>();

    public static void main(String[] args) throws IllegalAccessException {
        Wild w = new Wild();
        for (Method m : WhoseHourItIs.class.getDeclaredMethods()) {
            if (Modifier.isPublic(m.getModifiers())) {
                w.calls.add(m);
            }
        }
        w.calls.sort((a, b) -> a.getName().compareTo(b.getName()));
        w.everyCallAlone();
        for (int run = 0; run < 400; run++) {
            w.run(run);
        }
        w.due.end();
    }

    private void call(String when, WhoseHourItIs x, Method m, Object... arguments) throws IllegalAccessException {
        try {
            int answer = (int) m.invoke(x, arguments);
            due.is(when + m.getName() + List.of(arguments) + " answers no -5, -7 or -8",
                answer == -5 || answer == -7 || answer == -8 ? 1 : 0, 0);
        } catch (InvocationTargetException e) {
            due.is(when + m.getName() + List.of(arguments) + " threw " + e.getCause(), 1, 0);
        }
    }

    private Object argument(Class<?> type, long number) {
        return type == long.class ? (Object) number : (Object) (int) number;
    }

    private void everyCallAlone() throws IllegalAccessException {
        for (Method m : calls) {
            Class<?>[] types = m.getParameterTypes();
            for (long a : NUMBERS) {
                for (long b : NUMBERS) {
                    Object[] arguments = new Object[types.length];
                    for (int i = 0; i < types.length; i++) {
                        arguments[i] = argument(types[i], i == 0 ? a : b);
                    }
                    call("a new object's ", new WhoseHourItIs(), m, arguments);
                }
            }
        }
    }

    private void run(int run) throws IllegalAccessException {
        WhoseHourItIs x = new WhoseHourItIs();
        int told = random.nextInt(TEXTS.length + 1);
        for (int i = 0; i < told; i++) {
            Due.tell(x, TEXTS[i]);
        }
        for (int i = 0; i < 400; i++) {
            Method m = calls.get(random.nextInt(calls.size()));
            Class<?>[] types = m.getParameterTypes();
            Object[] arguments = new Object[types.length];
            for (int k = 0; k < types.length; k++) {
                boolean small = random.nextInt(3) > 0;
                arguments[k] = argument(types[k], small ? random.nextInt(8) : NUMBERS[random.nextInt(NUMBERS.length)]);
            }
            call("run " + run + ", call " + i + ": ", x, m, arguments);
        }
    }
}
