import java.util.Arrays;

/**
 * Whoever's passed must carry: races over hills with one sack of sand.
 * What each call promises stands in the project's document; README.md tells how to use it.
 */
public final class PassedCarry {
    public static final int BAD = -1, FULL = -2, FINDING = -3, STATE = -4, SPENT = -6, NONE = -9;

    /** The answer of a check that finds nothing to refuse; every refusal is below it. */
    private static final int FINE = 0;
    private static final int NOTHING = 1, BEYOND = 2, UNLIKE = 3, NOUGHT = 4, SIZE = 5;
    private static final int GOAT = 1, OX = 2, HARE = 3, HILLMAN = 4, MULE = 5;
    private static final int ROWS = 6, ROW_MOST = 60, TEXTS = 4, TEXT_MOST = 100, KEPT = 3;
    private static final int YARDS_MOST = 40, RUNNERS_MOST = 5, PACES_MOST = 8, STEPS_MOST = 60;
    private static final int HEAD_MOST = 9, LAWS = 3, BREATHS_AT_LOT = 3;
    private static final int CHOICES_MOST = 4, DUEL_MOST = 2, PACT_MOST = 2, CHOICE_ROWS_MOST = 256;
    private static final int SEASON_MOST = 40, LOT_FACTOR = 48271, LOT_MODULUS = 2147483647;
    private static final int BLANK = 32, BY_PLAN = -1, NOBODY = -1, NO_SIGN = -1000;
    /** More than any RANK, so that who does not PAY comes ahead of who does. */
    private static final int PAYING = 10;

    /** What a PACE of 0, 1, 2, 3 does to BREATH on flat ground without the SACK. */
    private static final int[] BREATH_CHANGE = {2, 1, -1, -3};
    /** What a PACE of 0 gives a HILLMAN. */
    private static final int HILLMAN_REST = 3;

    private final Row[] rows = new Row[ROWS];
    private final Row[] texts = new Row[TEXTS];
    /** The HILL as it is, and one that a TEXT is read into; they change places when it has no FAULT. */
    private Hill course = new Hill();
    private Hill draft = new Hill();
    private final Race race = new Race();
    /** A RACE to try things in, so that the RACE itself stays. */
    private final Race trial = new Race();
    private final Race[] keptRaces = new Race[KEPT];
    private int lawNow = 0;
    private int askedLast = 0;
    private long upperLast = 0;
    private long lowerLast = 1;
    private int findingLast = 0;
    private final int[] findingCounts = new int[SIZE + 1];
    /** PACES instead of those of PLANS; BY_PLAN between calls. */
    private final int[] chosen = new int[RUNNERS_MOST];
    private final int[] triedHeads = new int[RUNNERS_MOST];
    private final int[] triedBreaths = new int[RUNNERS_MOST];
    private final int[] suppers = new int[RUNNERS_MOST];
    private final int[] worths = new int[CHOICE_ROWS_MOST];

    public PassedCarry() {
        for (int r = 0; r < ROWS; r++) {
            rows[r] = new Row(ROW_MOST);
        }
        for (int t = 0; t < TEXTS; t++) {
            texts[t] = new Row(TEXT_MOST);
        }
        for (int k = 0; k < KEPT; k++) {
            keptRaces[k] = new Race();
        }
        Arrays.fill(chosen, BY_PLAN);
    }

    // ---- 1 rows, texts, hills

    public int row(int r, int n) {
        return layOut(rows, r, n, 0);
    }

    public int lay(int r, int i, int v) {
        int refusal = refusalAt(rows, r, i);
        if (refusal != FINE) {
            return refusal;
        }
        askedLast = rows[r].places[i];
        rows[r].places[i] = v;
        return 1;
    }

    public int at(int r, int i) {
        int refusal = refusalAt(rows, r, i);
        if (refusal != FINE) {
            return refusal;
        }
        askedLast = rows[r].places[i];
        return 1;
    }

    public int tear(int r) {
        int refusal = refusalOf(rows, r);
        if (refusal != FINE) {
            return refusal;
        }
        rows[r].remove();
        return 1;
    }

    public int copy(int r, int i, int to, int j, int n) {
        if (!isRow(r) || !isRow(to)) {
            return BAD;
        }
        if (n < 0) {
            return found(SIZE);
        }
        if (rows[r].isMissing() || rows[to].isMissing()) {
            return found(NOTHING);
        }
        if (!rows[r].hasFrom(i, n) || !rows[to].hasFrom(j, n)) {
            return found(BEYOND);
        }
        System.arraycopy(rows[r].places, i, rows[to].places, j, n);
        return 1;
    }

    public int mean(int r) {
        int refusal = refusalOf(rows, r);
        if (refusal != FINE) {
            return refusal;
        }
        int size = rows[r].size;
        if (size <= 0) {
            return found(NOUGHT);
        }
        askedLast = (int) (rows[r].sum() / size);
        return 1;
    }

    public int text(int t, int n) {
        return layOut(texts, t, n, BLANK);
    }

    public int put(int t, int i, int v) {
        int refusal = refusalAt(texts, t, i);
        if (refusal != FINE) {
            return refusal;
        }
        int before = texts[t].places[i];
        texts[t].places[i] = (byte) v;
        return before + 1000;
    }

    public int fault(int t) {
        int refusal = refusalOf(texts, t);
        if (refusal != FINE) {
            return refusal;
        }
        return new Reader(texts[t], draft).readHill();
    }

    public int hill(int t) {
        int refusal = refusalOf(texts, t);
        if (refusal != FINE) {
            return refusal;
        }
        if (new Reader(texts[t], draft).readHill() != NONE) {
            return STATE;
        }
        Hill before = course;
        course = draft;
        draft = before;
        lawNow = 0;
        for (int k = 0; k < KEPT; k++) {
            keptRaces[k].isKept = false;
        }
        race.setOff(course, course.heads, course.breaths);
        return course.runners;
    }

    public int road(int y) {
        if (y < 0 || y >= YARDS_MOST) {
            return BAD;
        }
        if (y >= course.yards) {
            return found(BEYOND);
        }
        askedLast = course.slopes[y];
        return 1;
    }

    public int about(int x, int what) {
        if (!isRunner(x) || what < 0 || what > 3) {
            return BAD;
        }
        askedLast = course.detail(x, what);
        return 1;
    }

    public int pace(int x, int i) {
        if (!isRunner(x)) {
            return BAD;
        }
        if (i < 0 || i >= course.planSizes[x]) {
            return found(BEYOND);
        }
        return course.paceAt(x, i);
    }

    public int mark(int x, int kind) {
        if (!isRunner(x) || kind < GOAT || kind > MULE) {
            return BAD;
        }
        if (!Hill.isOf(course.kinds[x], kind)) {
            return found(UNLIKE);
        }
        switch (kind) {
            case GOAT:
                return course.climbs();
            case OX:
                return course.breaths[x];
            case HILLMAN:
                return course.pacesOf(x, 0);
            default:
                return course.pacesOf(x, 3);
        }
    }

    public int head(int x, int v) {
        if (!isRunner(x) || v < 0 || v > HEAD_MOST) {
            return BAD;
        }
        int before = course.heads[x];
        course.heads[x] = v;
        return before;
    }

    public int law(int v) {
        if (v < 0 || v >= LAWS) {
            return BAD;
        }
        int before = lawNow;
        lawNow = v;
        return before;
    }

    // ---- 2 races

    public int begin() {
        if (!course.hasRoad()) {
            return STATE;
        }
        race.setOff(course, course.heads, course.breaths);
        return course.runners;
    }

    public int go(int n) {
        if (n < 0 || n > STEPS_MOST) {
            return BAD;
        }
        if (!course.hasRoad()) {
            return STATE;
        }
        for (int s = 0; s < n && !race.isOver(); s++) {
            race.takeStep(course, lawNow, chosen);
        }
        return race.steps;
    }

    public int told(int x, int what) {
        if (!isRunner(x) || what < 0 || what > 4) {
            return BAD;
        }
        askedLast = race.detail(x, what);
        return 1;
    }

    public int sack() {
        if (course.runners == 0) {
            return STATE;
        }
        askedLast = race.passings;
        return race.holder;
    }

    public int passed(int x) {
        if (!isRunner(x)) {
            return BAD;
        }
        return race.passedBits[x];
    }

    public int keep(int k) {
        if (!isKeptPlace(k)) {
            return BAD;
        }
        if (!course.hasRoad()) {
            return STATE;
        }
        keptRaces[k].becomeLike(race);
        keptRaces[k].isKept = true;
        return race.steps;
    }

    public int on(int k) {
        if (!isKeptPlace(k)) {
            return BAD;
        }
        if (!keptRaces[k].isKept) {
            return found(NOTHING);
        }
        race.becomeLike(keptRaces[k]);
        return race.steps;
    }

    public int pays() {
        if (course.runners == 0) {
            return STATE;
        }
        finishTrial(lawNow);
        askedLast = trial.steps;
        return trial.holder;
    }

    public int ranks(int r) {
        if (!isRow(r)) {
            return BAD;
        }
        if (course.runners == 0) {
            return STATE;
        }
        finishTrial(lawNow);
        rows[r].renew(course.runners, 0);
        int first = 0;
        for (int x = 0; x < course.runners; x++) {
            int rank = trial.rankOf(x);
            rows[r].places[x] = rank;
            if (rank == 1) {
                first = x;
            }
        }
        return first;
    }

    public int laws(int x) {
        if (!isRunner(x)) {
            return BAD;
        }
        int bits = 0;
        for (int v = 0; v < LAWS; v++) {
            finishTrial(v);
            if (trial.holder == x) {
                bits |= 1 << v;
            }
        }
        return bits;
    }

    // ---- 3 choices

    public int best(int x, int k) {
        if (!isRunner(x) || k < 1 || k > CHOICES_MOST) {
            return BAD;
        }
        int all = powerOfFour(k);
        int bestCode = 0;
        int bestGrade = 2 * PAYING;
        for (int code = 0; code < all; code++) {
            tryChoices(x, NOBODY, k, code);
            int grade = trial.rankOf(x) + (trial.holder == x ? PAYING : 0);
            if (grade < bestGrade) {
                bestGrade = grade;
                bestCode = code;
            }
        }
        askedLast = bestGrade > PAYING ? 10 * (bestGrade - PAYING) + 1 : 10 * bestGrade;
        return bestCode;
    }

    public int free(int x, int k) {
        if (!isRunner(x) || k < 1 || k > CHOICES_MOST) {
            return BAD;
        }
        int all = powerOfFour(k);
        int without = 0;
        for (int code = 0; code < all; code++) {
            tryChoices(x, NOBODY, k, code);
            if (trial.holder != x) {
                without++;
            }
        }
        tellFraction(without, all);
        return without;
    }

    public int duel(int x, int y, int k) {
        if (!isRunner(x) || !isRunner(y) || x == y || k < 0 || k > DUEL_MOST) {
            return BAD;
        }
        int all = powerOfFour(2 * k);
        for (int code = 0; code < all; code++) {
            tryChoices(x, y, k, code);
            worths[code] = trial.holder == y ? 2 : trial.holder == x ? 0 : 1;
        }
        askedLast = settleDuel(all);
        return worths[0];
    }

    public int pact(int x, int y, int z, int k) {
        if (!arePactOf(x, y, k) || !isRunner(z) || z == x || z == y) {
            return BAD;
        }
        int all = powerOfFour(2 * k);
        int first = NONE;
        int ways = 0;
        for (int code = 0; code < all; code++) {
            tryChoices(x, y, k, code);
            if (trial.holder == z) {
                first = ways == 0 ? code : first;
                ways++;
            }
        }
        if (ways > 0) {
            askedLast = ways;
        }
        return first;
    }

    public int worth(int x, int y, int k) {
        if (!arePactOf(x, y, k)) {
            return BAD;
        }
        int all = powerOfFour(2 * k);
        int payers = 0;
        for (int code = 0; code < all; code++) {
            tryChoices(x, y, k, code);
            payers |= 1 << trial.holder;
        }
        finishTrial(lawNow);
        int others = payers & ~(1 << x | 1 << y | 1 << trial.holder);
        askedLast = others;
        return Integer.bitCount(others);
    }

    // ---- 4 head starts, posts, lots

    public int start(int x) {
        if (!isRunner(x)) {
            return BAD;
        }
        System.arraycopy(course.heads, 0, triedHeads, 0, RUNNERS_MOST);
        for (int v = 0; v <= HEAD_MOST; v++) {
            triedHeads[x] = v;
            runTrial(triedHeads, course.breaths);
            if (trial.holder != x) {
                return v;
            }
        }
        return NONE;
    }

    public int fair(int r) {
        if (!isRow(r)) {
            return BAD;
        }
        int runners = course.runners;
        if (runners == 0) {
            return STATE;
        }
        int all = powerOfFour(runners);
        int least = STEPS_MOST + 1;
        // Nothing is less than 0 apart, so what comes behind that can't matter.
        for (int code = 0; code < all && least > 0; code++) {
            for (int x = 0; x < runners; x++) {
                triedHeads[x] = figureOf(code, runners - 1 - x);
            }
            runTrial(triedHeads, course.breaths);
            int apart = trial.apart();
            if (apart < least) {
                least = apart;
                rows[r].fillFrom(triedHeads, runners);
            }
        }
        return least;
    }

    public int post(int y, int r) {
        if (y < 1 || y > YARDS_MOST || !isRow(r)) {
            return BAD;
        }
        if (!course.hasRoad()) {
            return STATE;
        }
        if (y > course.yards) {
            return found(BEYOND);
        }
        rows[r].renew(0, 0);
        trial.setOff(course, course.heads, course.breaths);
        int there = notePassers(y, 0, rows[r]);
        for (int s = 0; s < STEPS_MOST && !trial.isOver(); s++) {
            trial.takeStep(course, lawNow, chosen);
            there = notePassers(y, there, rows[r]);
        }
        return rows[r].size;
    }

    public int could(int r, int later, int set) {
        if (!isRow(r) || !isRow(later) || set < 0 || set >= 1 << course.runners) {
            return BAD;
        }
        Row first = rows[r];
        Row second = rows[later];
        if (first.isMissing() || second.isMissing()) {
            return found(NOTHING);
        }
        if (first.size != second.size) {
            return found(SIZE);
        }
        int members = first.runnersIn(course.runners);
        if (members == NONE || members != second.runnersIn(course.runners)) {
            return found(UNLIKE);
        }
        int overtaken = overtakenBetween(first, second);
        return overtaken == 0 ? set : overtaken;
    }

    public int odds(int x) {
        if (!isRunner(x)) {
            return BAD;
        }
        int all = 1;
        for (int i = 0; i < course.runners; i++) {
            all *= BREATHS_AT_LOT;
        }
        int paid = 0;
        for (int code = 0; code < all; code++) {
            int rest = code;
            for (int i = 0; i < course.runners; i++) {
                triedBreaths[i] = breathByLot(i, rest % BREATHS_AT_LOT);
                rest /= BREATHS_AT_LOT;
            }
            runTrial(course.heads, triedBreaths);
            if (trial.holder == x) {
                paid++;
            }
        }
        tellFraction(paid, all);
        return paid;
    }

    public int season(int n, int seed, int r) {
        if (n < 1 || n > SEASON_MOST || seed < 1 || seed >= LOT_MODULUS || !isRow(r)) {
            return BAD;
        }
        if (course.runners == 0) {
            return STATE;
        }
        Arrays.fill(suppers, 0);
        long lot = seed;
        for (int done = 0; done < n; done++) {
            for (int x = 0; x < course.runners; x++) {
                lot = lot * LOT_FACTOR % LOT_MODULUS;
                triedBreaths[x] = breathByLot(x, (int) (lot % BREATHS_AT_LOT));
            }
            runTrial(course.heads, triedBreaths);
            suppers[trial.holder]++;
        }
        rows[r].fillFrom(suppers, course.runners);
        int most = 0;
        for (int x = 1; x < course.runners; x++) {
            if (suppers[x] > suppers[most]) {
                most = x;
            }
        }
        return most;
    }

    // ---- 5 what is told

    public int asked() {
        return askedLast;
    }

    public long upper() {
        return upperLast;
    }

    public long lower() {
        return lowerLast;
    }

    public int count(int what) {
        switch (what) {
            case 0:
                return course.yards;
            case 1:
                return course.runners;
            case 2:
                return race.steps;
            case 3:
                return race.done;
            case 4:
                return course.goats();
            case 5:
                return keptCount();
            case 6:
                return thereAmong(rows);
            case 7:
                return thereAmong(texts);
            default:
                return BAD;
        }
    }

    public int finding() {
        return findingLast;
    }

    public int findings(int f) {
        if (f < NOTHING || f > SIZE) {
            return BAD;
        }
        return findingCounts[f];
    }

    public long digest() {
        long h = 17;
        for (int what = 0; what <= 7; what++) {
            h = 31 * h + count(what);
        }
        h = 31 * h + lawNow;
        for (int y = 0; y < course.yards; y++) {
            h = 31 * h + course.slopes[y];
        }
        for (int x = 0; x < course.runners; x++) {
            h = digestRunner(h, x);
        }
        h = 31 * h + (course.runners == 0 ? -1 : race.holder);
        h = 31 * h + race.passings;
        for (int k = 0; k < KEPT; k++) {
            h = 31 * h + (keptRaces[k].isKept ? keptRaces[k].steps : -1);
        }
        for (int r = 0; r < ROWS; r++) {
            h = rows[r].digestInto(h);
        }
        for (int t = 0; t < TEXTS; t++) {
            h = texts[t].digestInto(h);
        }
        return h;
    }

    // ---- inside

    private static boolean isRow(int r) {
        return r >= 0 && r < ROWS;
    }

    private static boolean isKeptPlace(int k) {
        return k >= 0 && k < KEPT;
    }

    private boolean isRunner(int x) {
        return x >= 0 && x < course.runners;
    }

    private boolean arePactOf(int x, int y, int k) {
        return isRunner(x) && isRunner(y) && x != y && k >= 1 && k <= PACT_MOST;
    }

    /** Why a ROW (or a TEXT) can't be used, or FINE. */
    private int refusalOf(Row[] among, int r) {
        if (r < 0 || r >= among.length) {
            return BAD;
        }
        return among[r].isMissing() ? found(NOTHING) : FINE;
    }

    /** Why place i of a ROW (or a TEXT) can't be used, or FINE. */
    private int refusalAt(Row[] among, int r, int i) {
        int refusal = refusalOf(among, r);
        if (refusal != FINE) {
            return refusal;
        }
        return among[r].has(i) ? FINE : found(BEYOND);
    }

    /** A ROW (or a TEXT) is there anew with n times v. */
    private int layOut(Row[] among, int r, int n, int v) {
        if (r < 0 || r >= among.length || n > among[r].places.length) {
            return BAD;
        }
        if (n < 0) {
            return found(SIZE);
        }
        among[r].renew(n, v);
        return n;
    }

    private int found(int what) {
        findingLast = what;
        findingCounts[what]++;
        return FINDING;
    }

    private void tellFraction(long over, long under) {
        long a = over;
        long b = under;
        // Euclid's way takes fewer than 100 turns for any two longs.
        for (int turn = 0; turn < 100 && b != 0; turn++) {
            long rest = a % b;
            a = b;
            b = rest;
        }
        if (a > 0) {
            upperLast = over / a;
            lowerLast = under / a;
        }
    }

    private static int powerOfFour(int k) {
        return 1 << 2 * k;
    }

    /** A figure of a number to the base of 4; place 0 is the lowest one. */
    private static int figureOf(int code, int place) {
        return code >> 2 * place & 3;
    }

    /** The trial is the RACE gone on by PLANS to its end. */
    private void finishTrial(int law) {
        trial.becomeLike(race);
        trial.runOut(course, law, chosen);
    }

    /** The trial is a RACE from its beginning to its end. */
    private void runTrial(int[] heads, int[] breaths) {
        trial.setOff(course, heads, breaths);
        trial.runOut(course, lawNow, chosen);
    }

    /**
     * The trial is the RACE gone on to its end, with a row of PACES for x (and for y, if that is a
     * RUNNER) in its next k STEPS: in each first that of x, then that of y.
     */
    private void tryChoices(int x, int y, int k, int code) {
        trial.becomeLike(race);
        int place = y == NOBODY ? k : 2 * k;
        for (int s = 0; s < k && !trial.isOver(); s++) {
            place--;
            chosen[x] = figureOf(code, place);
            if (y != NOBODY) {
                place--;
                chosen[y] = figureOf(code, place);
            }
            trial.takeStep(course, lawNow, chosen);
        }
        chosen[x] = BY_PLAN;
        if (y != NOBODY) {
            chosen[y] = BY_PLAN;
        }
        trial.runOut(course, lawNow, chosen);
    }

    /**
     * From the end back: of each four worths y takes the least, then of each four of these x the
     * most. worths[0] is then what all comes to, the answer the first PACE of x (NONE: no choice).
     */
    private int settleDuel(int all) {
        int firstPace = NONE;
        for (int left = all; left > 1; left /= 16) {
            for (int four = 0; four < left / 4; four++) {
                worths[four] = worths[4 * four + placeOfLeast(4 * four)];
            }
            for (int four = 0; four < left / 16; four++) {
                firstPace = placeOfMost(4 * four);
                worths[four] = worths[4 * four + firstPace];
            }
        }
        return firstPace;
    }

    private int placeOfLeast(int from) {
        int least = 0;
        for (int i = 1; i < 4; i++) {
            if (worths[from + i] < worths[from + least]) {
                least = i;
            }
        }
        return least;
    }

    private int placeOfMost(int from) {
        int most = 0;
        for (int i = 1; i < 4; i++) {
            if (worths[from + i] > worths[from + most]) {
                most = i;
            }
        }
        return most;
    }

    /** Those who have now come to a YARD go into an order; the bits of all who are there already. */
    private int notePassers(int y, int there, Row order) {
        int bits = there;
        for (int x = 0; x < course.runners; x++) {
            if (trial.yard[x] >= y && (bits & 1 << x) == 0) {
                bits |= 1 << x;
                order.add(x);
            }
        }
        return bits;
    }

    /** Who was ahead of somebody in the first order and is behind that one in the second (bits). */
    private static int overtakenBetween(Row first, Row second) {
        int bits = 0;
        for (int i = 0; i < first.size; i++) {
            for (int j = i + 1; j < first.size; j++) {
                if (second.placeOf(first.places[i]) > second.placeOf(first.places[j])) {
                    bits |= 1 << first.places[i];
                }
            }
        }
        return bits;
    }

    /** A lot of 0 is one BREATH less, of 2 one more. */
    private int breathByLot(int x, int lot) {
        return Math.max(1, course.breaths[x] + lot - 1);
    }

    private int keptCount() {
        int n = 0;
        for (int k = 0; k < KEPT; k++) {
            if (keptRaces[k].isKept) {
                n++;
            }
        }
        return n;
    }

    private static int thereAmong(Row[] among) {
        int n = 0;
        for (int i = 0; i < among.length; i++) {
            if (!among[i].isMissing()) {
                n++;
            }
        }
        return n;
    }

    private long digestRunner(long before, int x) {
        long h = before;
        for (int what = 0; what <= 3; what++) {
            h = 31 * h + course.detail(x, what);
        }
        for (int i = 0; i < course.planSizes[x]; i++) {
            h = 31 * h + course.paceAt(x, i);
        }
        for (int what = 0; what <= 4; what++) {
            h = 31 * h + race.detail(x, what);
        }
        return 31 * h + race.passedBits[x];
    }

    /** A ROW, or a TEXT (whose places are then bytes); its room is made once and used again. */
    private static final class Row {
        final int[] places;
        /** NONE: it is missing. */
        int size = NONE;

        Row(int most) {
            places = new int[most];
        }

        boolean isMissing() {
            return size < 0;
        }

        boolean has(int i) {
            return i >= 0 && i < size;
        }

        boolean hasFrom(int i, int n) {
            return i >= 0 && n >= 0 && i <= size - n;
        }

        void renew(int n, int v) {
            size = n;
            Arrays.fill(places, v);
        }

        void remove() {
            size = NONE;
        }

        void add(int v) {
            if (size >= 0 && size < places.length) {
                places[size] = v;
                size++;
            }
        }

        void fillFrom(int[] values, int n) {
            renew(0, 0);
            for (int i = 0; i < n && i < values.length; i++) {
                add(values[i]);
            }
        }

        long sum() {
            long all = 0;
            for (int i = 0; i < size; i++) {
                all += places[i];
            }
            return all;
        }

        int placeOf(int v) {
            for (int i = 0; i < size; i++) {
                if (places[i] == v) {
                    return i;
                }
            }
            return NONE;
        }

        /** The bits of the RUNNERS in an order; NONE, if one is no RUNNER or stands there twice. */
        int runnersIn(int runners) {
            int bits = 0;
            for (int i = 0; i < size; i++) {
                int x = places[i];
                if (x < 0 || x >= runners || (bits & 1 << x) != 0) {
                    return NONE;
                }
                bits |= 1 << x;
            }
            return bits;
        }

        long digestInto(long before) {
            long h = 31 * before + (isMissing() ? -1 : size);
            for (int i = 0; i < size; i++) {
                h = 31 * h + places[i];
            }
            return h;
        }
    }

    /** A road and its RUNNERS, as told ahead of any RACE. */
    private static final class Hill {
        int yards = 0;
        final int[] slopes = new int[YARDS_MOST];
        int runners = 0;
        final int[] kinds = new int[RUNNERS_MOST];
        final int[] breaths = new int[RUNNERS_MOST];
        final int[] heads = new int[RUNNERS_MOST];
        final int[] planSizes = new int[RUNNERS_MOST];
        final int[] plans = new int[RUNNERS_MOST * PACES_MOST];

        static boolean isOf(int kind, int wanted) {
            return kind == wanted || kind == HILLMAN && wanted == GOAT || kind == MULE && wanted == OX;
        }

        void clear() {
            yards = 0;
            runners = 0;
            Arrays.fill(heads, 0);
        }

        boolean hasRoad() {
            return yards > 0;
        }

        int slopeAt(int y) {
            return y >= 0 && y < yards ? slopes[y] : 0;
        }

        int paceAt(int x, int i) {
            return i >= 0 && i < PACES_MOST ? plans[PACES_MOST * x + i] : 0;
        }

        int plannedPace(int x, int step) {
            int size = planSizes[x];
            return size > 0 ? paceAt(x, step % size) : 0;
        }

        int pacesOf(int x, int wanted) {
            int n = 0;
            for (int i = 0; i < planSizes[x]; i++) {
                if (paceAt(x, i) == wanted) {
                    n++;
                }
            }
            return n;
        }

        int climbs() {
            int n = 0;
            for (int y = 0; y < yards; y++) {
                if (slopes[y] > 0) {
                    n++;
                }
            }
            return n;
        }

        int goats() {
            int n = 0;
            for (int x = 0; x < runners; x++) {
                if (isOf(kinds[x], GOAT)) {
                    n++;
                }
            }
            return n;
        }

        int detail(int x, int what) {
            switch (what) {
                case 0:
                    return kinds[x];
                case 1:
                    return breaths[x];
                case 2:
                    return heads[x];
                default:
                    return planSizes[x];
            }
        }
    }

    /** Reads a TEXT into a HILL, as far as it goes. */
    private static final class Reader {
        final Row source;
        final Hill target;
        int place = 0;

        Reader(Row source, Hill target) {
            this.source = source;
            this.target = target;
        }

        /** The FAULT; NONE, if the TEXT is a HILL. */
        int readHill() {
            target.clear();
            skipBlanks();
            if (sign() != 'y') {
                return place;
            }
            place++;
            if (!readYards()) {
                return place;
            }
            skipBlanks();
            // A RUNNER too many is a FAULT, so there are no more turns than these.
            for (int x = 0; x <= RUNNERS_MOST && place < source.size; x++) {
                if (!readRunner()) {
                    return place;
                }
                skipBlanks();
            }
            return NONE;
        }

        private int sign() {
            return source.has(place) ? source.places[place] : NO_SIGN;
        }

        private void skipBlanks() {
            while (place < source.size && sign() == BLANK) {
                place++;
            }
        }

        private boolean readYards() {
            int slope = slopeOf(sign());
            while (slope != NO_SIGN && target.yards < YARDS_MOST) {
                target.slopes[target.yards] = slope;
                target.yards++;
                place++;
                slope = slopeOf(sign());
            }
            return slope == NO_SIGN && target.yards > 0;
        }

        private boolean readRunner() {
            int x = target.runners;
            int kind = kindOf(sign());
            if (kind == NO_SIGN || x >= RUNNERS_MOST) {
                return false;
            }
            place++;
            int figure = sign();
            if (figure < '1' || figure > '9') {
                return false;
            }
            place++;
            target.kinds[x] = kind;
            target.breaths[x] = figure - '0';
            target.runners++;
            return readPlan(x);
        }

        private boolean readPlan(int x) {
            int size = 0;
            int step = paceOf(sign());
            while (step != NO_SIGN && size < PACES_MOST) {
                target.plans[PACES_MOST * x + size] = step;
                size++;
                place++;
                step = paceOf(sign());
            }
            target.planSizes[x] = size;
            return step == NO_SIGN && size > 0;
        }

        private static int slopeOf(int sign) {
            switch (sign) {
                case '=':
                    return 0;
                case '/':
                    return 1;
                case '^':
                    return 2;
                case '\\':
                    return -1;
                default:
                    return NO_SIGN;
            }
        }

        private static int kindOf(int sign) {
            switch (sign) {
                case 'n':
                    return 0;
                case 'g':
                    return GOAT;
                case 'o':
                    return OX;
                case 'h':
                    return HARE;
                case 'm':
                    return HILLMAN;
                case 'u':
                    return MULE;
                default:
                    return NO_SIGN;
            }
        }

        private static int paceOf(int sign) {
            switch (sign) {
                case 'z':
                    return 0;
                case 'w':
                    return 1;
                case 'r':
                    return 2;
                case 's':
                    return 3;
                default:
                    return NO_SIGN;
            }
        }
    }

    /** A RACE on its way. */
    private static final class Race {
        int runners = 0;
        int steps = 0;
        int done = 0;
        int holder = 0;
        int passings = 0;
        boolean isKept = false;
        final int[] yard = new int[RUNNERS_MOST];
        final int[] breath = new int[RUNNERS_MOST];
        /** The most BREATH, which a lot can make another one than that of the HILL. */
        final int[] mostBreath = new int[RUNNERS_MOST];
        final int[] doneIn = new int[RUNNERS_MOST];
        final int[] carried = new int[RUNNERS_MOST];
        final int[] passedBits = new int[RUNNERS_MOST];

        void setOff(Hill hill, int[] heads, int[] breaths) {
            runners = hill.runners;
            steps = 0;
            done = 0;
            holder = 0;
            passings = 0;
            for (int x = 0; x < runners; x++) {
                yard[x] = Math.min(heads[x], hill.yards);
                breath[x] = breaths[x];
                mostBreath[x] = breaths[x];
                doneIn[x] = NONE;
                carried[x] = 0;
                passedBits[x] = 0;
                noteEnd(hill, x);
            }
        }

        void becomeLike(Race other) {
            runners = other.runners;
            steps = other.steps;
            done = other.done;
            holder = other.holder;
            passings = other.passings;
            for (int x = 0; x < runners; x++) {
                yard[x] = other.yard[x];
                breath[x] = other.breath[x];
                mostBreath[x] = other.mostBreath[x];
                doneIn[x] = other.doneIn[x];
                carried[x] = other.carried[x];
                passedBits[x] = other.passedBits[x];
            }
        }

        boolean isOver() {
            return done >= runners || steps >= STEPS_MOST;
        }

        boolean isDone(int x) {
            return doneIn[x] != NONE;
        }

        void runOut(Hill hill, int law, int[] chosen) {
            for (int s = 0; s < STEPS_MOST && !isOver(); s++) {
                takeStep(hill, law, chosen);
            }
        }

        void takeStep(Hill hill, int law, int[] chosen) {
            for (int x = 0; x < runners; x++) {
                if (!isDone(x)) {
                    int wanted = chosen[x] == BY_PLAN ? hill.plannedPace(x, steps) : chosen[x];
                    goBy(hill, law, x, wanted);
                }
            }
            steps++;
        }

        private void goBy(Hill hill, int law, int x, int wanted) {
            int kind = hill.kinds[x];
            int from = yard[x];
            int slope = hill.slopeAt(from);
            int step = kind == MULE && wanted == 3 ? 2 : wanted;
            while (step > 0 && breathAfter(kind, x, slope, step) < 0) {
                step--;
            }
            breath[x] = Math.min(mostBreath[x], breathAfter(kind, x, slope, step));
            int far = kind == HARE && step == 3 ? 4 : step;
            int to = Math.min(from + far, hill.yards);
            if (holder == x) {
                carried[x] += to - from;
            }
            passOthers(x, to, law, slope);
            yard[x] = to;
            noteEnd(hill, x);
        }

        private int breathAfter(int kind, int x, int slope, int step) {
            if (step <= 0) {
                return breath[x] + (kind == HILLMAN ? HILLMAN_REST : BREATH_CHANGE[0]);
            }
            int after = breath[x] + (step < BREATH_CHANGE.length ? BREATH_CHANGE[step] : 0);
            if (slope > 0 && !Hill.isOf(kind, GOAT)) {
                after -= slope;
            }
            if (slope < 0 && step > 1) {
                after++;
            }
            if (holder == x && !Hill.isOf(kind, OX)) {
                after--;
            }
            return after;
        }

        private void passOthers(int x, int to, int law, int slope) {
            for (int y = yard[x]; y < to; y++) {
                for (int other = 0; other < runners; other++) {
                    if (yard[other] == y && other != x && !isDone(other)) {
                        passings++;
                        passedBits[x] |= 1 << other;
                        if (sackMoves(x, law, slope)) {
                            holder = other;
                        }
                    }
                }
            }
        }

        private boolean sackMoves(int passer, int law, int slope) {
            // Who has it and is DONE keeps it by any LAW.
            if (doneIn[holder] != NONE) {
                return false;
            }
            return law == 0 || law == 1 && holder == passer || law == 2 && slope <= 0;
        }

        private void noteEnd(Hill hill, int x) {
            if (yard[x] >= hill.yards) {
                doneIn[x] = steps;
                done++;
            }
        }

        int rankOf(int x) {
            int rank = 1;
            for (int other = 0; other < runners; other++) {
                if (other != x && isAhead(other, x)) {
                    rank++;
                }
            }
            return rank;
        }

        private boolean isAhead(int x, int other) {
            if (isDone(x) != isDone(other)) {
                return isDone(x);
            }
            if (isDone(x) && doneIn[x] != doneIn[other]) {
                return doneIn[x] < doneIn[other];
            }
            if (!isDone(x) && yard[x] != yard[other]) {
                return yard[x] > yard[other];
            }
            return x < other;
        }

        /** How far apart the STEPS are in which RUNNERS were DONE. */
        int apart() {
            int least = STEPS_MOST;
            int most = 0;
            for (int x = 0; x < runners; x++) {
                int end = isDone(x) ? doneIn[x] : STEPS_MOST;
                least = Math.min(least, end);
                most = Math.max(most, end);
            }
            return most - least;
        }

        int detail(int x, int what) {
            switch (what) {
                case 0:
                    return yard[x];
                case 1:
                    return breath[x];
                case 2:
                    return doneIn[x];
                case 3:
                    return rankOf(x);
                default:
                    return carried[x];
            }
        }
    }
}
