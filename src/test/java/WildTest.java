import java.lang.management.ManagementFactory;
import java.lang.reflect.InvocationTargetException;
import java.lang.reflect.Method;
import java.lang.reflect.Modifier;
import java.util.Arrays;
import java.util.Comparator;

/** No call throws, for any numbers in any state, and no call makes more than a few small objects. */
public final class WildTest {
    private static final int[] WILD = {Integer.MIN_VALUE, -2147483647, -1000, -1, 0, 1, 2, 5, 41, 60, 100, 2147483646, 2147483647};
    private static final int[] FEW = {Integer.MIN_VALUE, -1, 0, 1, 2, Integer.MAX_VALUE};
    private static final String[] HILLS = {
        "", "y=", "y= n1w", "y^ n1w u9z", "y====== n9r g1s h3wz", "y=/^\\" + "=".repeat(36) + "n9wr g8rrz o7ws h6szz m5rw",
        "y" + "^".repeat(40) + "n1z n1z n1z n1z n1z", "y" + "\\".repeat(40) + "h9s u9s h9sw o1s m9s"};
    private static final Check check = new Check("WildTest");

    public static void main(String[] args) throws Exception {
        for (String hill : HILLS) {
            for (int steps = 0; steps <= 60; steps += 20) {
                everyCall(hill, steps);
            }
        }
        room();
        check.end();
    }

    private static Method[] face() {
        return Arrays.stream(PassedCarry.class.getDeclaredMethods())
            .filter(m -> Modifier.isPublic(m.getModifiers()))
            .sorted(Comparator.comparing(Method::getName))
            .toArray(Method[]::new);
    }

    private static PassedCarry ready(String hill, int steps) {
        PassedCarry p = hill.isEmpty() ? new PassedCarry() : Check.hillOf(hill);
        p.go(steps);
        p.row(0, 60);
        p.row(2, 0);
        p.keep(0);
        return p;
    }

    private static void everyCall(String hill, int steps) throws Exception {
        for (Method m : face()) {
            int n = m.getParameterCount();
            int[] among = n > 2 ? FEW : WILD;
            int all = (int) Math.pow(among.length, n);
            boolean isDear = m.getName().equals("pact");
            PassedCarry p = ready(hill, steps);
            for (int code = 0; code < all; code += isDear ? 7 : 1) {
                if (code % 300 == 299) {
                    p = ready(hill, steps);
                }
                Object[] numbers = new Object[n];
                int rest = code;
                for (int i = 0; i < n; i++) {
                    numbers[i] = among[rest % among.length];
                    rest /= among.length;
                }
                answers(p, m, numbers);
            }
        }
    }

    private static void answers(PassedCarry p, Method m, Object[] numbers) throws Exception {
        try {
            m.invoke(p, numbers);
        } catch (InvocationTargetException e) {
            check.due(m.getName() + Arrays.toString(numbers) + " threw " + e.getCause(), 1, 0);
        }
    }

    private static void dearCalls(PassedCarry p, int x) {
        p.best(x, 4);
        p.free(x, 4);
        p.duel(x, (x + 1) % 5, 2);
        p.pact(x, (x + 1) % 5, (x + 2) % 5, 2);
        p.worth(x, (x + 1) % 5, 2);
        p.start(x);
        p.fair(1);
        p.post(40, 2);
        p.odds(x);
        p.season(40, 77, 3);
        p.text(1, 100);
        p.row(4, 60);
        p.fault(0);
        p.hill(0);
        p.digest();
    }

    /** The room of a run is 600,000 objects; a call that makes none but a reader is far below. */
    private static void room() {
        com.sun.management.ThreadMXBean bean = (com.sun.management.ThreadMXBean) ManagementFactory.getThreadMXBean();
        long id = Thread.currentThread().getId();
        PassedCarry p = Check.hillOf("y" + "=/^\\".repeat(10) + "n9wr g8rrz o7ws h6szz m5z");
        dearCalls(p, 0);
        long before = bean.getThreadAllocatedBytes(id);
        for (int i = 0; i < 30; i++) {
            dearCalls(p, i % 5);
        }
        long made = bean.getThreadAllocatedBytes(id) - before;
        check.due("450 dear calls made " + made + " bytes: small", made < 200_000 ? 1 : 0, 1);
        long start = bean.getThreadAllocatedBytes(id);
        for (int i = 0; i < 100; i++) {
            new PassedCarry();
        }
        long each = (bean.getThreadAllocatedBytes(id) - start) / 100;
        check.due("a new object takes " + each + " bytes: small", each < 20_000 ? 1 : 0, 1);
    }
}
