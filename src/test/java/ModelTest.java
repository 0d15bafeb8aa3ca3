import java.lang.reflect.Method;
import java.util.ArrayList;
import java.util.Arrays;
import java.util.Comparator;
import java.util.List;
import java.util.Random;

/** Runs of calls by lot (always the same ones): every answer must be the model's. */
public final class ModelTest {
    private static final int RUNS = Integer.getInteger("model.runs", 400);
    private static final int CALLS = 512;
    /** The most calls that a hill, two orders, and any other turn of a run take. */
    private static final int HILL_CALLS = 103, ORDER_CALLS = 14, TURN_CALLS = 3;
    private static final List<String> DEAR = List.of("fair", "odds", "season", "best", "free", "duel", "pact", "worth");
    private static final List<String> OF_RUNNERS = List.of("about", "pace", "mark", "head", "told", "passed", "laws",
        "best", "free", "duel", "pact", "worth", "start", "odds");
    private static final int[] ODD = {
        -2147483648, -1000, -7, -2, -1, 0, 9, 10, 39, 40, 41, 60, 61, 100, 101, 2147483646, 2147483647};

    private final Random lots;
    private final PassedCarry real = new PassedCarry();
    private final Model model = new Model();
    private final StringBuilder tale = new StringBuilder();
    private int calls = 0;

    private ModelTest(long seed) {
        lots = new Random(seed);
    }

    private boolean same(String name, int... args) throws ReflectiveOperationException {
        Class<?>[] types = new Class<?>[args.length];
        Arrays.fill(types, int.class);
        Object[] values = Arrays.stream(args).boxed().toArray();
        Method inClass = PassedCarry.class.getMethod(name, types);
        Method inModel = Model.class.getDeclaredMethod(name, types);
        long got = ((Number) inClass.invoke(real, values)).longValue();
        long want = (Long) inModel.invoke(model, values);
        calls++;
        tale.append(name).append(Arrays.toString(args)).append(" = ").append(got).append('\n');
        if (got != want) {
            System.out.println(tale + "due is " + want);
        }
        return got == want;
    }

    private String pick(String among) {
        return String.valueOf(among.charAt(lots.nextInt(among.length())));
    }

    private String hillByLot() {
        StringBuilder b = new StringBuilder(" ".repeat(lots.nextInt(3))).append('y');
        int yards = lots.nextInt(6) == 0 ? 1 + lots.nextInt(3) : 1 + lots.nextInt(40);
        int runners = lots.nextInt(12) == 0 ? 0 : 1 + lots.nextInt(5);
        yards = Math.min(yards, 90 - 11 * runners);
        for (int y = 0; y < yards; y++) {
            b.append(pick(lots.nextBoolean() ? "=/^\\" : "=\\="));
        }
        for (int x = 0; x < runners; x++) {
            b.append(" ".repeat(lots.nextInt(2))).append(pick("ngohmu")).append(pick("123456789"));
            int paces = 1 + lots.nextInt(8);
            for (int i = 0; i < paces; i++) {
                b.append(pick(lots.nextInt(4) == 0 ? "zwrs" : "wrs"));
            }
        }
        if (lots.nextInt(5) == 0) {
            int i = lots.nextInt(b.length());
            b.setCharAt(i, pick("y=/^\\ngohmu019zwrs x").charAt(0));
        }
        return b.toString();
    }

    private boolean writeHill() throws ReflectiveOperationException {
        String hill = hillByLot();
        int t = lots.nextInt(4);
        boolean ok = same("text", t, Math.min(100, hill.length()));
        for (int i = 0; ok && i < hill.length() && i < 100; i++) {
            ok = same("put", t, i, hill.charAt(i));
        }
        return ok && same("fault", t) && same("hill", t);
    }

    private int number(String name, int i) {
        if (lots.nextInt(25) == 0) {
            return ODD[lots.nextInt(ODD.length)];
        }
        if (name.equals("lay") && i == 2 || name.equals("put") && i == 2) {
            return lots.nextInt(3) == 0 ? lots.nextInt() : lots.nextInt(7) - 1;
        }
        if (name.equals("go") || name.equals("road") || name.equals("post") && i == 0) {
            return lots.nextInt(lots.nextInt(4) == 0 ? 42 : 12);
        }
        if (name.equals("season") && i < 2) {
            return i == 0 ? 1 + lots.nextInt(40) : 1 + lots.nextInt(2147483646);
        }
        if (name.equals("could") && i == 2) {
            return lots.nextInt(32);
        }
        if ((name.equals("row") || name.equals("text")) && i == 1) {
            return lots.nextInt(9);
        }
        return lots.nextInt(6);
    }

    /** Two orders of the same RUNNERS, which random numbers alone would seldom be. */
    private boolean ordersByLot() throws ReflectiveOperationException {
        List<Integer> order = new ArrayList<>();
        int n = lots.nextInt(6);
        for (int x = 0; x < n; x++) {
            order.add(x);
        }
        boolean ok = true;
        for (int r = 2; ok && r < 4; r++) {
            if (lots.nextInt(3) > 0) {
                java.util.Collections.shuffle(order, lots);
            }
            ok = same("row", r, n);
            for (int i = 0; ok && i < n; i++) {
                ok = same("lay", r, i, order.get(i));
            }
        }
        return ok && same("could", 2, 3, lots.nextInt(1 << n)) && same("could", 3, 2, lots.nextInt(32));
    }

    /** RUNNERS that there are, no two alike, and as many STEPS as a choice may have. */
    private void nameRunners(String name, int[] args) {
        int runners = (int) model.count(1);
        int named = name.equals("pact") ? 3 : name.equals("duel") || name.equals("worth") ? 2 : 1;
        List<Integer> some = new ArrayList<>();
        for (int x = 0; x < runners; x++) {
            some.add(x);
        }
        java.util.Collections.shuffle(some, lots);
        for (int i = 0; i < named && i < runners; i++) {
            args[i] = some.get(i);
        }
        if (DEAR.contains(name) && args.length > named) {
            args[named] = named == 1 ? 1 + lots.nextInt(4) : name.equals("duel") ? lots.nextInt(3) : 1 + lots.nextInt(2);
        }
    }

    private boolean callByLot(Method[] face) throws ReflectiveOperationException {
        Method m = face[lots.nextInt(face.length)];
        String name = m.getName();
        if (name.equals("hill") || name.equals("text") && lots.nextInt(4) > 0) {
            return lots.nextInt(8) > 0 || !hasRoomFor(HILL_CALLS) || writeHill();
        }
        if (name.equals("could") && lots.nextBoolean() && hasRoomFor(ORDER_CALLS)) {
            return ordersByLot();
        }
        if (DEAR.contains(name) && lots.nextInt(4) > 0) {
            return true;
        }
        int[] args = new int[m.getParameterCount()];
        for (int i = 0; i < args.length; i++) {
            args[i] = number(name, i);
        }
        if (OF_RUNNERS.contains(name) && lots.nextInt(10) > 0) {
            nameRunners(name, args);
        }
        return same(name, args) && same("asked");
    }

    /** Whether the object may be used so often still, and then as often as the end of a run takes. */
    private boolean hasRoomFor(int more) {
        return calls + more <= CALLS - 5;
    }

    /** As many calls as an object is promised for: the last one is the 512th. */
    private boolean run(Method[] face) throws ReflectiveOperationException {
        boolean ok = lots.nextInt(10) == 0 || writeHill();
        while (ok && hasRoomFor(TURN_CALLS)) {
            ok = callByLot(face);
            ok = ok && (lots.nextInt(4) > 0 || same("digest"));
        }
        ok = ok && same("upper") && same("lower") && same("finding");
        while (ok && calls < CALLS) {
            ok = same("digest");
        }
        return ok && calls == CALLS;
    }

    public static void main(String[] args) throws ReflectiveOperationException {
        Method[] face = PassedCarry.class.getDeclaredMethods();
        face = Arrays.stream(face)
            .filter(m -> java.lang.reflect.Modifier.isPublic(m.getModifiers()))
            .sorted(Comparator.comparing(Method::getName))
            .toArray(Method[]::new);
        long seed = Long.getLong("model.seed", 20000);
        for (int r = 0; r < RUNS; r++) {
            if (!new ModelTest(seed + r).run(face)) {
                System.out.println("ModelTest: run " + r + " is not as the model's");
                System.exit(1);
            }
        }
        System.out.println("ModelTest: " + RUNS + " runs as the model's");
    }
}
