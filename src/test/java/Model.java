import java.util.ArrayList;
import java.util.Comparator;
import java.util.HashSet;
import java.util.List;
import java.util.Set;
import java.util.TreeMap;
import java.util.regex.Matcher;
import java.util.regex.Pattern;

/**
 * The document read a second time, with the Java library and with other means than the class:
 * patterns for texts, sorting for ranks, recursion for choices. ModelTest compares the two.
 */
final class Model {
    static final int BAD = -1, FINDING = -3, STATE = -4, NONE = -9;
    private static final Pattern HILL =
        Pattern.compile(" *y([=/^\\\\]{1,40})((?: *[ngohmu][1-9][zwrs]{1,8}){0,5}) *");
    private static final Pattern RUNNER = Pattern.compile("([ngohmu])([1-9])([zwrs]+)");

    private static final class Refused extends RuntimeException {
        private static final long serialVersionUID = 1;
        final int code;

        Refused(int code) {
            this.code = code;
        }
    }

    private interface Call {
        long answer();
    }

    private static final class Entry {
        final int kind;
        final int breath;
        final String plan;
        int head = 0;

        Entry(int kind, int breath, String plan) {
            this.kind = kind;
            this.breath = breath;
            this.plan = plan;
        }

        int planned(int i) {
            return "zwrs".indexOf(plan.charAt(i));
        }
    }

    private static final class Going implements Cloneable {
        int no;
        int yard;
        int breath;
        int most;
        int doneIn = NONE;
        int carried = 0;
        Set<Integer> passed = new HashSet<>();

        Going same() {
            Going g = new Going();
            g.no = no;
            g.yard = yard;
            g.breath = breath;
            g.most = most;
            g.doneIn = doneIn;
            g.carried = carried;
            g.passed = new HashSet<>(passed);
            return g;
        }
    }

    private final class Run {
        List<Going> all = new ArrayList<>();
        List<Integer> arrivals = new ArrayList<>();
        int steps = 0;
        int sack = 0;
        int passings = 0;

        Run same() {
            Run r = new Run();
            for (Going g : all) {
                r.all.add(g.same());
            }
            r.steps = steps;
            r.sack = sack;
            r.passings = passings;
            return r;
        }

        boolean over() {
            return steps == 60 || all.stream().allMatch(g -> g.doneIn != NONE);
        }

        void step(int[] wish, int byLaw, int post) {
            for (Going g : all) {
                if (g.doneIn == NONE) {
                    Entry e = field.get(g.no);
                    int wanted = wish[g.no] < 0 ? e.planned(steps % e.plan.length()) : wish[g.no];
                    move(g, e.kind, wanted, byLaw, post);
                }
            }
            steps++;
        }

        private void move(Going g, int kind, int wanted, int byLaw, int post) {
            int slope = slopes.get(g.yard);
            boolean laden = sack == g.no;
            int pace = kind == 5 ? Math.min(2, wanted) : wanted;
            while (left(g, kind, pace, slope, laden) < 0) {
                pace--;
            }
            g.breath = Math.min(g.most, left(g, kind, pace, slope, laden));
            int p = g.yard;
            int q = p + (kind == 3 && pace == 3 ? 4 : pace);
            List<Going> met = new ArrayList<>();
            for (Going o : all) {
                if (o != g && o.doneIn == NONE && o.yard >= p && o.yard < q) {
                    met.add(o);
                }
            }
            met.sort(Comparator.comparingInt((Going o) -> o.yard).thenComparingInt(o -> o.no));
            for (Going o : met) {
                passings++;
                g.passed.add(o.no);
                boolean fast = all.get(sack).doneIn != NONE;
                boolean barred = byLaw == 1 && sack != g.no || byLaw == 2 && slope > 0;
                if (!fast && !barred) {
                    sack = o.no;
                }
            }
            g.yard = Math.min(slopes.size(), q);
            g.carried += laden ? g.yard - p : 0;
            if (g.yard == slopes.size()) {
                g.doneIn = steps;
            }
            if (p < post && g.yard >= post) {
                arrivals.add(g.no);
            }
        }

        private int left(Going g, int kind, int pace, int slope, boolean laden) {
            if (pace == 0) {
                return g.breath + (kind == 4 ? 3 : 2);
            }
            boolean goat = kind == 1 || kind == 4;
            boolean ox = kind == 2 || kind == 5;
            int cost = pace == 2 ? 1 : pace == 3 ? 3 : 0;
            cost += slope > 0 && !goat ? slope : 0;
            cost += laden && !ox ? 1 : 0;
            cost -= slope == -1 && pace >= 2 ? 1 : 0;
            return g.breath + (pace == 1 ? 1 : 0) - cost;
        }

        Run out(int byLaw) {
            while (!over()) {
                step(plans(), byLaw, 1000);
            }
            return this;
        }

        List<Integer> order() {
            List<Going> sorted = new ArrayList<>(all);
            sorted.sort(Comparator.comparingInt((Going g) -> g.doneIn == NONE ? 1000 : g.doneIn)
                .thenComparingInt(g -> -g.yard)
                .thenComparingInt(g -> g.no));
            List<Integer> numbers = new ArrayList<>();
            sorted.forEach(g -> numbers.add(g.no));
            return numbers;
        }

        int rank(int x) {
            return order().indexOf(x) + 1;
        }
    }

    private final TreeMap<Integer, int[]> rows = new TreeMap<>();
    private final TreeMap<Integer, byte[]> texts = new TreeMap<>();
    private final TreeMap<Integer, Run> kept = new TreeMap<>();
    private List<Integer> slopes = new ArrayList<>();
    private List<Entry> field = new ArrayList<>();
    private Run run = new Run();
    private int law = 0;
    private int asked = 0;
    private long upper = 0;
    private long lower = 1;
    private int finding = 0;
    private final int[] findings = new int[6];

    private static int[] plans() {
        return new int[] {-1, -1, -1, -1, -1};
    }

    private static void bad(boolean when) {
        if (when) {
            throw new Refused(BAD);
        }
    }

    private static void state(boolean when) {
        if (when) {
            throw new Refused(STATE);
        }
    }

    private void find(boolean when, int which) {
        if (when) {
            finding = which;
            findings[which]++;
            throw new Refused(FINDING);
        }
    }

    private static long of(Call call) {
        try {
            return call.answer();
        } catch (Refused r) {
            return r.code;
        }
    }

    private static void within(int v, int least, int most) {
        bad(v < least || v > most);
    }

    private void runner(int x) {
        bad(x < 0 || x >= field.size());
    }

    private int tell(int v) {
        asked = v;
        return 1;
    }

    long row(int r, int n) {
        return of(() -> {
            within(r, 0, 5);
            bad(n > 60);
            find(n < 0, 5);
            rows.put(r, new int[n]);
            return n;
        });
    }

    private int[] placed(int r, int i) {
        within(r, 0, 5);
        find(!rows.containsKey(r), 1);
        find(i < 0 || i >= rows.get(r).length, 2);
        return rows.get(r);
    }

    long lay(int r, int i, int v) {
        return of(() -> {
            int[] row = placed(r, i);
            tell(row[i]);
            row[i] = v;
            return 1;
        });
    }

    long at(int r, int i) {
        return of(() -> tell(placed(r, i)[i]));
    }

    long tear(int r) {
        return of(() -> {
            within(r, 0, 5);
            find(rows.remove(r) == null, 1);
            return 1;
        });
    }

    long copy(int r, int i, int to, int j, int n) {
        return of(() -> {
            within(r, 0, 5);
            within(to, 0, 5);
            find(n < 0, 5);
            find(!rows.containsKey(r) || !rows.containsKey(to), 1);
            find(i < 0 || (long) i + n > rows.get(r).length, 2);
            find(j < 0 || (long) j + n > rows.get(to).length, 2);
            int[] taken = rows.get(r).clone();
            for (int m = 0; m < n; m++) {
                rows.get(to)[j + m] = taken[i + m];
            }
            return 1;
        });
    }

    long mean(int r) {
        return of(() -> {
            within(r, 0, 5);
            find(!rows.containsKey(r), 1);
            int[] row = rows.get(r);
            find(row.length == 0, 4);
            long sum = 0;
            for (int v : row) {
                sum += v;
            }
            return tell((int) (sum / row.length));
        });
    }

    long text(int t, int n) {
        return of(() -> {
            within(t, 0, 3);
            bad(n > 100);
            find(n < 0, 5);
            byte[] blanks = new byte[n];
            java.util.Arrays.fill(blanks, (byte) 32);
            texts.put(t, blanks);
            return n;
        });
    }

    long put(int t, int i, int v) {
        return of(() -> {
            within(t, 0, 3);
            find(!texts.containsKey(t), 1);
            byte[] text = texts.get(t);
            find(i < 0 || i >= text.length, 2);
            int before = text[i];
            text[i] = (byte) v;
            return before + 1000;
        });
    }

    private String signs(int t) {
        within(t, 0, 3);
        find(!texts.containsKey(t), 1);
        return new String(texts.get(t), java.nio.charset.StandardCharsets.ISO_8859_1);
    }

    /** The first place up to which no HILL begins so; the size, if a HILL could still come of it. */
    private static int firstFault(String signs) {
        if (HILL.matcher(signs).matches()) {
            return NONE;
        }
        for (int n = 1; n <= signs.length(); n++) {
            Matcher m = HILL.matcher(signs.substring(0, n));
            if (!m.matches() && !m.hitEnd()) {
                return n - 1;
            }
        }
        return signs.length();
    }

    long fault(int t) {
        return of(() -> firstFault(signs(t)));
    }

    long hill(int t) {
        return of(() -> {
            String signs = signs(t);
            Matcher m = HILL.matcher(signs);
            state(!m.matches());
            slopes = new ArrayList<>();
            for (char c : m.group(1).toCharArray()) {
                slopes.add("\\=/^".indexOf(c) - 1);
            }
            field = new ArrayList<>();
            Matcher each = RUNNER.matcher(m.group(2));
            while (each.find()) {
                int kind = "ngohmu".indexOf(each.group(1));
                field.add(new Entry(kind, Integer.parseInt(each.group(2)), each.group(3)));
            }
            law = 0;
            kept.clear();
            run = fresh(heads(), breaths());
            return field.size();
        });
    }

    private int[] heads() {
        return field.stream().mapToInt(e -> e.head).toArray();
    }

    private int[] breaths() {
        return field.stream().mapToInt(e -> e.breath).toArray();
    }

    private Run fresh(int[] heads, int[] breaths) {
        Run r = new Run();
        for (int x = 0; x < field.size(); x++) {
            Going g = new Going();
            g.no = x;
            g.yard = Math.min(heads[x], slopes.size());
            g.doneIn = heads[x] >= slopes.size() ? 0 : NONE;
            g.breath = breaths[x];
            g.most = breaths[x];
            r.all.add(g);
        }
        return r;
    }

    long road(int y) {
        return of(() -> {
            within(y, 0, 39);
            find(y >= slopes.size(), 2);
            return tell(slopes.get(y));
        });
    }

    private int abouts(int x, int what) {
        Entry e = field.get(x);
        return new int[] {e.kind, e.breath, e.head, e.plan.length()}[what];
    }

    long about(int x, int what) {
        return of(() -> {
            runner(x);
            within(what, 0, 3);
            return tell(abouts(x, what));
        });
    }

    long pace(int x, int i) {
        return of(() -> {
            runner(x);
            find(i < 0 || i >= field.get(x).plan.length(), 2);
            return field.get(x).planned(i);
        });
    }

    long mark(int x, int kind) {
        return of(() -> {
            runner(x);
            within(kind, 1, 5);
            Entry e = field.get(x);
            boolean is = e.kind == kind || kind == 1 && e.kind == 4 || kind == 2 && e.kind == 5;
            find(!is, 3);
            if (kind == 1) {
                return slopes.stream().filter(s -> s > 0).count();
            }
            if (kind == 2) {
                return e.breath;
            }
            return e.plan.chars().filter(c -> c == (kind == 4 ? 'z' : 's')).count();
        });
    }

    long head(int x, int v) {
        return of(() -> {
            runner(x);
            within(v, 0, 9);
            int before = field.get(x).head;
            field.get(x).head = v;
            return before;
        });
    }

    long law(int v) {
        return of(() -> {
            within(v, 0, 2);
            int before = law;
            law = v;
            return before;
        });
    }

    long begin() {
        return of(() -> {
            state(slopes.isEmpty());
            run = fresh(heads(), breaths());
            return field.size();
        });
    }

    long go(int n) {
        return of(() -> {
            within(n, 0, 60);
            state(slopes.isEmpty());
            for (int s = 0; s < n; s++) {
                if (!run.over()) {
                    run.step(plans(), law, 1000);
                }
            }
            return run.steps;
        });
    }

    private int tolds(int x, int what) {
        Going g = run.all.get(x);
        return new int[] {g.yard, g.breath, g.doneIn, run.rank(x), g.carried}[what];
    }

    long told(int x, int what) {
        return of(() -> {
            runner(x);
            within(what, 0, 4);
            return tell(tolds(x, what));
        });
    }

    long sack() {
        return of(() -> {
            state(field.isEmpty());
            tell(run.passings);
            return run.sack;
        });
    }

    private static int bits(Iterable<Integer> set) {
        int b = 0;
        for (int x : set) {
            b |= 1 << x;
        }
        return b;
    }

    long passed(int x) {
        return of(() -> {
            runner(x);
            return bits(run.all.get(x).passed);
        });
    }

    long keep(int k) {
        return of(() -> {
            within(k, 0, 2);
            state(slopes.isEmpty());
            kept.put(k, run.same());
            return run.steps;
        });
    }

    long on(int k) {
        return of(() -> {
            within(k, 0, 2);
            find(!kept.containsKey(k), 1);
            run = kept.get(k).same();
            return run.steps;
        });
    }

    long pays() {
        return of(() -> {
            state(field.isEmpty());
            Run end = run.same().out(law);
            tell(end.steps);
            return end.sack;
        });
    }

    long ranks(int r) {
        return of(() -> {
            within(r, 0, 5);
            state(field.isEmpty());
            List<Integer> order = run.same().out(law).order();
            int[] row = new int[order.size()];
            for (int i = 0; i < row.length; i++) {
                row[order.get(i)] = i + 1;
            }
            rows.put(r, row);
            return order.get(0);
        });
    }

    long laws(int x) {
        return of(() -> {
            runner(x);
            int b = 0;
            for (int v = 0; v < 3; v++) {
                b += run.same().out(v).sack == x ? 1 << v : 0;
            }
            return b;
        });
    }

    /** All ends of the RACE by k chosen PACES of one, in the order of their rows. */
    private void endsOfOne(Run from, int x, int k, List<Run> ends) {
        if (k == 0) {
            ends.add(from.same().out(law));
            return;
        }
        for (int p = 0; p < 4; p++) {
            endsOfOne(stepped(from, x, p, -1, 0), x, k - 1, ends);
        }
    }

    private void endsOfTwo(Run from, int x, int y, int k, List<Run> ends) {
        if (k == 0) {
            ends.add(from.same().out(law));
            return;
        }
        for (int p = 0; p < 16; p++) {
            endsOfTwo(stepped(from, x, p / 4, y, p % 4), x, y, k - 1, ends);
        }
    }

    private Run stepped(Run from, int x, int px, int y, int py) {
        Run next = from.same();
        int[] wish = plans();
        wish[x] = px;
        if (y >= 0) {
            wish[y] = py;
        }
        if (!next.over()) {
            next.step(wish, law, 1000);
        }
        return next;
    }

    long best(int x, int k) {
        return of(() -> {
            runner(x);
            within(k, 1, 4);
            List<Run> ends = new ArrayList<>();
            endsOfOne(run, x, k, ends);
            int best = 0;
            for (int i = 1; i < ends.size(); i++) {
                int paysNow = ends.get(i).sack == x ? 1 : 0;
                int paysBest = ends.get(best).sack == x ? 1 : 0;
                if (paysNow < paysBest
                    || paysNow == paysBest && ends.get(i).rank(x) < ends.get(best).rank(x)) {
                    best = i;
                }
            }
            tell(10 * ends.get(best).rank(x) + (ends.get(best).sack == x ? 1 : 0));
            return best;
        });
    }

    private void fraction(long a, long b) {
        long g = java.math.BigInteger.valueOf(a).gcd(java.math.BigInteger.valueOf(b)).longValue();
        upper = a / g;
        lower = b / g;
    }

    long free(int x, int k) {
        return of(() -> {
            runner(x);
            within(k, 1, 4);
            List<Run> ends = new ArrayList<>();
            endsOfOne(run, x, k, ends);
            long n = ends.stream().filter(e -> e.sack != x).count();
            fraction(n, ends.size());
            return n;
        });
    }

    /** What it comes to, and the first PACE of x. */
    private int[] play(Run from, int x, int y, int k) {
        if (k == 0) {
            int payer = from.same().out(law).sack;
            return new int[] {payer == y ? 2 : payer == x ? 0 : 1, NONE};
        }
        int[] great = {-1, NONE};
        for (int px = 0; px < 4; px++) {
            int little = 3;
            for (int py = 0; py < 4; py++) {
                little = Math.min(little, play(stepped(from, x, px, y, py), x, y, k - 1)[0]);
            }
            if (little > great[0]) {
                great = new int[] {little, px};
            }
        }
        return great;
    }

    long duel(int x, int y, int k) {
        return of(() -> {
            runner(x);
            runner(y);
            bad(x == y);
            within(k, 0, 2);
            int[] end = play(run, x, y, k);
            tell(end[1]);
            return end[0];
        });
    }

    private List<Run> pactEnds(int x, int y, int k) {
        runner(x);
        runner(y);
        bad(x == y);
        within(k, 1, 2);
        List<Run> ends = new ArrayList<>();
        endsOfTwo(run, x, y, k, ends);
        return ends;
    }

    long pact(int x, int y, int z, int k) {
        return of(() -> {
            runner(z);
            bad(z == x || z == y);
            List<Integer> ways = new ArrayList<>();
            List<Run> ends = pactEnds(x, y, k);
            for (int i = 0; i < ends.size(); i++) {
                if (ends.get(i).sack == z) {
                    ways.add(i);
                }
            }
            if (ways.isEmpty()) {
                return NONE;
            }
            tell(ways.size());
            return ways.get(0);
        });
    }

    long worth(int x, int y, int k) {
        return of(() -> {
            Set<Integer> made = new HashSet<>();
            pactEnds(x, y, k).forEach(e -> made.add(e.sack));
            made.remove(x);
            made.remove(y);
            made.remove(run.same().out(law).sack);
            tell(bits(made));
            return made.size();
        });
    }

    long start(int x) {
        return of(() -> {
            runner(x);
            for (int v = 0; v < 10; v++) {
                int[] heads = heads();
                heads[x] = v;
                if (fresh(heads, breaths()).out(law).sack != x) {
                    return v;
                }
            }
            return NONE;
        });
    }

    private int[] fairest;
    private int fairestBy;

    private void tryHeads(int[] heads, int x) {
        if (x < heads.length) {
            for (int v = 0; v < 4; v++) {
                heads[x] = v;
                tryHeads(heads, x + 1);
            }
            return;
        }
        int least = 100;
        int most = -1;
        for (Going g : fresh(heads, breaths()).out(law).all) {
            int in = g.doneIn == NONE ? 60 : g.doneIn;
            least = Math.min(least, in);
            most = Math.max(most, in);
        }
        if (most - least < fairestBy) {
            fairestBy = most - least;
            fairest = heads.clone();
        }
    }

    long fair(int r) {
        return of(() -> {
            within(r, 0, 5);
            state(field.isEmpty());
            fairestBy = 1000;
            tryHeads(new int[field.size()], 0);
            rows.put(r, fairest);
            return fairestBy;
        });
    }

    long post(int y, int r) {
        return of(() -> {
            within(y, 1, 40);
            within(r, 0, 5);
            state(slopes.isEmpty());
            find(y > slopes.size(), 2);
            Run from = fresh(heads(), breaths());
            from.all.stream().filter(g -> g.yard >= y).forEach(g -> from.arrivals.add(g.no));
            while (!from.over()) {
                from.step(plans(), law, y);
            }
            rows.put(r, from.arrivals.stream().mapToInt(x -> x).toArray());
            return from.arrivals.size();
        });
    }

    private List<Integer> order(int r) {
        List<Integer> order = new ArrayList<>();
        for (int v : rows.get(r)) {
            order.add(v);
        }
        return order;
    }

    long could(int r, int later, int set) {
        return of(() -> {
            within(r, 0, 5);
            within(later, 0, 5);
            bad(set < 0 || set >> field.size() != 0);
            find(!rows.containsKey(r) || !rows.containsKey(later), 1);
            List<Integer> one = order(r);
            List<Integer> two = order(later);
            find(one.size() != two.size(), 5);
            Set<Integer> members = new HashSet<>(one);
            boolean strange = members.stream().anyMatch(v -> v < 0 || v >= field.size());
            find(strange || members.size() != one.size() || !members.equals(new HashSet<>(two)), 3);
            Set<Integer> overtaken = new HashSet<>();
            for (int a : members) {
                for (int b : members) {
                    if (one.indexOf(a) < one.indexOf(b) && two.indexOf(a) > two.indexOf(b)) {
                        overtaken.add(a);
                    }
                }
            }
            return overtaken.isEmpty() ? set : bits(overtaken);
        });
    }

    private int payersAmongLots(int[] breaths, int i, int x) {
        if (i == breaths.length) {
            return fresh(heads(), breaths).out(law).sack == x ? 1 : 0;
        }
        int n = 0;
        for (int d = -1; d <= 1; d++) {
            int[] next = breaths.clone();
            next[i] = Math.max(1, next[i] + d);
            n += payersAmongLots(next, i + 1, x);
        }
        return n;
    }

    long odds(int x) {
        return of(() -> {
            runner(x);
            int n = payersAmongLots(breaths(), 0, x);
            fraction(n, Math.round(Math.pow(3, field.size())));
            return n;
        });
    }

    long season(int n, int seed, int r) {
        return of(() -> {
            within(n, 1, 40);
            within(seed, 1, 2147483646);
            within(r, 0, 5);
            state(field.isEmpty());
            int[] owed = new int[field.size()];
            java.math.BigInteger lot = java.math.BigInteger.valueOf(seed);
            java.math.BigInteger prime = java.math.BigInteger.valueOf(2147483647);
            for (int i = 0; i < n; i++) {
                int[] breaths = breaths();
                for (int x = 0; x < breaths.length; x++) {
                    lot = lot.multiply(java.math.BigInteger.valueOf(48271)).mod(prime);
                    breaths[x] = Math.max(1, breaths[x] + (int) (lot.longValue() % 3) - 1);
                }
                owed[fresh(heads(), breaths).out(law).sack]++;
            }
            rows.put(r, owed);
            int most = 0;
            for (int x = 0; x < owed.length; x++) {
                most = owed[x] > owed[most] ? x : most;
            }
            return most;
        });
    }

    long asked() {
        return asked;
    }

    long upper() {
        return upper;
    }

    long lower() {
        return lower;
    }

    long count(int what) {
        switch (what) {
            case 0: return slopes.size();
            case 1: return field.size();
            case 2: return run.steps;
            case 3: return run.all.stream().filter(g -> g.doneIn != NONE).count();
            case 4: return field.stream().filter(e -> e.kind == 1 || e.kind == 4).count();
            case 5: return kept.size();
            case 6: return rows.size();
            case 7: return texts.size();
            default: return BAD;
        }
    }

    long finding() {
        return finding;
    }

    long findings(int f) {
        return of(() -> {
            within(f, 1, 5);
            return findings[f];
        });
    }

    long digest() {
        List<Long> all = new ArrayList<>();
        for (int what = 0; what < 8; what++) {
            all.add(count(what));
        }
        all.add((long) law);
        slopes.forEach(s -> all.add((long) s));
        for (int x = 0; x < field.size(); x++) {
            for (int what = 0; what < 4; what++) {
                all.add((long) abouts(x, what));
            }
            for (int i = 0; i < field.get(x).plan.length(); i++) {
                all.add((long) field.get(x).planned(i));
            }
            for (int what = 0; what < 5; what++) {
                all.add((long) tolds(x, what));
            }
            all.add((long) bits(run.all.get(x).passed));
        }
        all.add(field.isEmpty() ? -1L : run.sack);
        all.add((long) run.passings);
        for (int k = 0; k < 3; k++) {
            all.add(kept.containsKey(k) ? kept.get(k).steps : -1L);
        }
        for (int r = 0; r < 6; r++) {
            int[] row = rows.get(r);
            all.add(row == null ? -1L : row.length);
            for (int i = 0; row != null && i < row.length; i++) {
                all.add((long) row[i]);
            }
        }
        for (int t = 0; t < 4; t++) {
            byte[] text = texts.get(t);
            all.add(text == null ? -1L : text.length);
            for (int i = 0; text != null && i < text.length; i++) {
                all.add((long) text[i]);
            }
        }
        long h = 17;
        for (long v : all) {
            h = 31 * h + v;
        }
        return h;
    }
}
