import java.util.function.ToIntFunction;

/** The edges of promises 39 to 45, and of the terms: what is told, what is refused. */
public final class ToldEdgesTest {
    private static final int BAD = Edges.BAD, STATE = Edges.STATE, NONE = Edges.NONE, FINDING = Edges.FINDING;
    private static final int NOTHING = Edges.NOTHING, BEYOND = Edges.BEYOND, UNLIKE = Edges.UNLIKE;
    private static final int NOUGHT = Edges.NOUGHT, SIZE = Edges.SIZE, LEAST = Edges.LEAST, MOST = Edges.MOST;
    private static final Edges edges = new Edges("ToldEdgesTest");
    private static final Check check = edges.check;

    public static void main(String[] args) {
        badAheadOfState();
        badAheadOfFindings();
        stateAheadOfFindings();
        whichFinding();
        lowestTerms();
        bits();
        askedBefore();
        askedIsTold();
        askedStays();
        fractionsBefore();
        fractionsStay();
        count();
        countBad();
        finding();
        findings();
        digestOfNone();
        digestOfMissingOnes();
        digestOfAll();
        edges.end();
    }

    private static void badAheadOfState() {
        edges.sentence("Refused is, the first of these that fits, in this order: BAD -1 (a number that is none, or not as told),"
            + " FULL -2, STATE -4 (not now)");
        edges.bad("go(61)", PassedCarry::new, p -> p.go(61));
        edges.bad("keep(3)", PassedCarry::new, p -> p.keep(3));
        edges.bad("ranks(6)", PassedCarry::new, p -> p.ranks(6));
        edges.bad("fair(6)", PassedCarry::new, p -> p.fair(6));
        edges.bad("post(0, 0)", PassedCarry::new, p -> p.post(0, 0));
        edges.bad("post(1, 6)", PassedCarry::new, p -> p.post(1, 6));
        edges.bad("season(0, 1, 0)", PassedCarry::new, p -> p.season(0, 1, 0));
        edges.bad("season(1, 0, 0)", PassedCarry::new, p -> p.season(1, 0, 0));
        edges.bad("season(1, 1, 6)", PassedCarry::new, p -> p.season(1, 1, 6));
        edges.state("go(60)", PassedCarry::new, p -> p.go(60));
        edges.state("keep(2)", PassedCarry::new, p -> p.keep(2));
        edges.state("ranks(5)", PassedCarry::new, p -> p.ranks(5));
        edges.state("fair(5)", PassedCarry::new, p -> p.fair(5));
        edges.state("post(40, 5)", PassedCarry::new, p -> p.post(40, 5));
        edges.state("season(40, 2147483646, 5)", PassedCarry::new, p -> p.season(40, 2147483646, 5));
    }

    private static void badAheadOfFindings() {
        edges.sentence("SPENT -6 (more than told), FINDING -3 (finding() tells which)");
        edges.bad("row(6, -1)", PassedCarry::new, p -> p.row(6, -1));
        edges.bad("lay(6, 0, 0)", PassedCarry::new, p -> p.lay(6, 0, 0));
        edges.bad("at(-1, 0)", PassedCarry::new, p -> p.at(-1, 0));
        edges.bad("tear(6)", PassedCarry::new, p -> p.tear(6));
        edges.bad("copy(6, 0, 0, 0, -1)", PassedCarry::new, p -> p.copy(6, 0, 0, 0, -1));
        edges.bad("copy(0, 0, 6, 0, 1)", PassedCarry::new, p -> p.copy(0, 0, 6, 0, 1));
        edges.bad("mean(6)", PassedCarry::new, p -> p.mean(6));
        edges.bad("text(4, -1)", PassedCarry::new, p -> p.text(4, -1));
        edges.bad("put(4, 0, 0)", PassedCarry::new, p -> p.put(4, 0, 0));
        edges.bad("fault(4)", PassedCarry::new, p -> p.fault(4));
        edges.bad("hill(4)", PassedCarry::new, p -> p.hill(4));
        edges.bad("road(40)", PassedCarry::new, p -> p.road(40));
        edges.bad("pace(0, 0)", PassedCarry::new, p -> p.pace(0, 0));
        edges.bad("mark(0, 1)", PassedCarry::new, p -> p.mark(0, 1));
        edges.bad("on(3)", PassedCarry::new, p -> p.on(3));
        edges.bad("could(0, 1, 1)", PassedCarry::new, p -> p.could(0, 1, 1));
        edges.bad("post(41, 0)", Edges::underWay, p -> p.post(41, 0));
    }

    private static void stateAheadOfFindings() {
        edges.sentence("unless a call says so otherwise");
        edges.state("post(1, 0): STATE ahead of BEYOND", PassedCarry::new, p -> p.post(1, 0));
        edges.finds("hill(0): NOTHING ahead of STATE", PassedCarry::new, p -> p.hill(0), NOTHING);
    }

    private static void whichFinding() {
        edges.sentence("1 NOTHING (a ROW, a TEXT, a kept RACE that is missing)");
        edges.finds("a ROW", Edges::underWay, p -> p.at(3, 0), NOTHING);
        edges.finds("a TEXT", Edges::underWay, p -> p.put(2, 0, 0), NOTHING);
        edges.finds("a kept RACE", Edges::underWay, p -> p.on(1), NOTHING);
        edges.sentence("2 BEYOND (a place that there is not)");
        edges.finds("of a ROW", Edges::underWay, p -> p.at(0, 3), BEYOND);
        edges.finds("of a TEXT", Edges::underWay, p -> p.put(1, 3, 0), BEYOND);
        edges.finds("of the ROAD", Edges::underWay, p -> p.road(8), BEYOND);
        edges.finds("of a PLAN", Edges::underWay, p -> p.pace(0, 2), BEYOND);
        edges.finds("a post", Edges::underWay, p -> p.post(9, 0), BEYOND);
        edges.sentence("3 UNLIKE (a RUNNER of another KIND; a number that is none)");
        edges.finds("a RUNNER of another KIND", Edges::underWay, p -> p.mark(0, 1), UNLIKE);
        edges.finds("a number that is none", Edges::underWay, p -> p.could(4, 4, 0), UNLIKE);
        edges.sentence("4 NOUGHT (shared among none)");
        edges.finds("mean of none", Edges::underWay, p -> p.mean(2), NOUGHT);
        edges.sentence("5 SIZE (fewer than none; not as many as due)");
        edges.finds("fewer than none", Edges::underWay, p -> p.row(0, -1), SIZE);
        edges.finds("not as many as due", Edges::underWay, p -> p.could(0, 2, 0), SIZE);
    }

    private static void fractionIs(String hill, ToIntFunction<PassedCarry> how, int upper, int lower) {
        PassedCarry p = Check.hillOf(hill);
        how.applyAsInt(p);
        check.fraction(hill, p, upper, lower);
    }

    private static void lowestTerms() {
        edges.sentence("Fractions are told by upper(), lower(), in lowest terms, the lower number above 0 (0 by 1).");
        fractionIs("y== n9z n9r", p -> p.free(0, 1), 1, 2);
        fractionIs("y= n9z n9z", p -> p.free(0, 1), 3, 4);
        fractionIs("y= n9z n9z", p -> p.free(0, 4), 255, 256);
        fractionIs("y= n9z", p -> p.free(0, 4), 0, 1);
        fractionIs("y= n9w n9z", p -> p.free(0, 4), 1, 1);
        fractionIs("y^ n1w n9z", p -> p.odds(0), 2, 3);
        fractionIs("y^ n1w n9z", p -> p.odds(1), 1, 3);
        fractionIs("y= n9w n9w", p -> p.odds(0), 0, 1);
        fractionIs("y= n9w n9w", p -> p.odds(1), 1, 1);
    }

    private static void bits() {
        edges.sentence("Sets (of RUNNERS) are told by bits.");
        PassedCarry p = Check.hillOf("y== n9z n9z n9z n9z n9w");
        p.go(1);
        check.due("passed(4)", p.passed(4), 15);
        Edges.order(p, 0, 4, 0);
        Edges.order(p, 1, 0, 4);
        check.due("could(0, 1, 1)", p.could(0, 1, 1), 16);
        check.due("could(0, 0, 31)", p.could(0, 0, 31), 31);
        edges.due("worth() by asked()", () -> Check.hillOf("y== n9w n9w n9w"), q -> q.worth(0, 2, 1), 1, 2);
    }

    private static void askedBefore() {
        edges.sentence("that was not refused (nor NONE) told; 0 before.");
        edges.due("asked() of a new one", PassedCarry::new, p -> p.asked(), 0);
        edges.due("asked() behind a HILL", () -> Check.hillOf("y==== n9r n9w"), p -> p.asked(), 0);
        edges.due("behind refused calls alone", PassedCarry::new, p -> p.at(0, 0) + p.road(0) + p.sack(), FINDING * 2 + STATE, 0);
    }

    private static void tells(String call, ToIntFunction<PassedCarry> how, int want) {
        PassedCarry p = Edges.underWay();
        how.applyAsInt(p);
        check.due(call + " by asked()", p.asked(), want);
        check.due(call + " by asked() again", p.asked(), want);
    }

    private static void askedIsTold() {
        edges.sentence("What the latest lay(), at(), mean(), road(), about(), told(), sack(), pays(), best(), duel(), pact(), worth()");
        tells("lay()", p -> p.lay(0, 1, 55), 1);
        tells("at()", p -> p.at(0, 2), 2);
        tells("mean()", p -> p.mean(0), 1);
        tells("road()", p -> p.road(3), 2);
        tells("about()", p -> p.about(1, 1), 6);
        tells("told()", p -> p.told(0, 0), 4);
        tells("sack()", p -> p.sack(), 4);
        tells("pays()", p -> p.pays(), 6);
        tells("duel()", p -> p.duel(0, 1, 0), NONE);
        tells("two behind one another", p -> p.at(0, 2) + p.road(3), 2);
        PassedCarry p = Check.hillOf("y= n9w n9w n9w");
        p.go(1);
        p.best(2, 1);
        check.due("best() by asked()", p.asked(), 31);
        p.pact(0, 1, 2, 1);
        check.due("pact() by asked()", p.asked(), 16);
        p.worth(0, 1, 1);
        check.due("worth() by asked()", p.asked(), 0);
        p.duel(0, 1, 1);
        check.due("duel() by asked()", p.asked(), 0);
    }

    private static void leaves77(String call, ToIntFunction<PassedCarry> how) {
        PassedCarry p = Edges.underWay();
        how.applyAsInt(p);
        check.due("asked() behind " + call, p.asked(), 77);
    }

    private static void askedStays() {
        edges.sentence("that was not refused (nor NONE) told");
        leaves77("row()", p -> p.row(0, 2));
        leaves77("tear()", p -> p.tear(0));
        leaves77("copy()", p -> p.copy(0, 0, 1, 0, 1));
        leaves77("text()", p -> p.text(0, 2));
        leaves77("put()", p -> p.put(0, 0, 2));
        leaves77("fault()", p -> p.fault(1));
        leaves77("hill()", p -> p.hill(0));
        leaves77("pace()", p -> p.pace(0, 0));
        leaves77("mark()", p -> p.mark(1, 1));
        leaves77("head()", p -> p.head(0, 3));
        leaves77("law()", p -> p.law(2));
        leaves77("begin()", p -> p.begin());
        leaves77("go()", p -> p.go(1));
        leaves77("passed()", p -> p.passed(0));
        leaves77("keep()", p -> p.keep(1));
        leaves77("on()", p -> p.on(0));
        leaves77("ranks()", p -> p.ranks(0));
        leaves77("laws()", p -> p.laws(0));
        leaves77("free()", p -> p.free(0, 1));
        leaves77("start()", p -> p.start(0));
        leaves77("fair()", p -> p.fair(0));
        leaves77("post()", p -> p.post(1, 0));
        leaves77("could()", p -> p.could(0, 1, 1));
        leaves77("odds()", p -> p.odds(0));
        leaves77("season()", p -> p.season(1, 1, 0));
        leaves77("count()", p -> p.count(0));
        leaves77("finding()", p -> p.finding() + p.findings(1));
        leaves77("digest()", p -> (int) p.digest());
        leaves77("upper()", p -> (int) (p.upper() + p.lower()));
        leaves77("refused best()", p -> p.best(0, 5));
        leaves77("refused duel()", p -> p.duel(0, 0, 1));
        leaves77("refused pact()", p -> p.pact(0, 1, 1, 1));
        leaves77("refused worth()", p -> p.worth(0, 0, 1));
    }

    private static void fractionsBefore() {
        edges.sentence("The upper number of the fraction that was told last; 0 before.");
        check.due("upper() of a new one", new PassedCarry().upper(), 0);
        check.due("upper() behind a HILL", Check.hillOf("y= n9w").upper(), 0);
        edges.sentence("Its lower number; 1 before.");
        check.due("lower() of a new one", new PassedCarry().lower(), 1);
        check.due("lower() behind a HILL", Check.hillOf("y= n9w").lower(), 1);
    }

    private static void fractionsStay() {
        edges.sentence("the fraction that was told last");
        PassedCarry p = Check.hillOf("y^ n1w n9z");
        p.odds(0);
        check.fraction("odds(0)", p, 2, 3);
        p.odds(2);
        p.odds(-1);
        p.free(0, 0);
        p.free(2, 1);
        check.fraction("refused ones leave it", p, 2, 3);
        p.best(0, 1);
        p.duel(0, 1, 1);
        p.start(0);
        p.fair(0);
        p.season(3, 1, 0);
        p.begin();
        p.hill(0);
        check.fraction("others leave it", p, 2, 3);
        p.free(0, 1);
        check.fraction("free(0, 1)", p, 0, 1);
        p.odds(1);
        check.fraction("odds(1)", p, 1, 3);
    }

    private static void count() {
        edges.sentence("0 YARDS, 1 RUNNERS, 2 STEPS done, 3 RUNNERS that are DONE, 4 GOATS (HILLMEN, too), 5 kept RACES,"
            + " 6 ROWS, 7 TEXTS that are there.");
        int[] want = {8, 3, 3, 0, 1, 2, 4, 3};
        for (int i = 0; i < 8; i++) {
            int what = i;
            edges.due("count(" + i + ") of a new one", PassedCarry::new, p -> p.count(what), 0, 0);
            edges.due("count(" + i + ")", Edges::underWay, p -> p.count(what), want[i], 77);
        }
        edges.due("all HILLMEN", () -> Check.hillOf("y= m1w m1w g1w m1w g1w"), p -> p.count(4), 5);
        edges.due("none of the others", () -> Check.hillOf("y= n1w o1w h1w u1w"), p -> p.count(4), 0);
        PassedCarry p = Check.hillOf("y== n9w n9w n9z");
        p.head(1, 2);
        check.due("nobody is DONE yet", p.count(3), 0);
        p.begin();
        check.due("one is DONE by its HEAD START", p.count(3), 1);
        p.go(2);
        check.due("two are DONE", p.count(3), 2);
        p.go(60);
        check.due("one never is", p.count(3), 2);
        check.due("STEPS done", p.count(2), 60);
        p.begin();
        check.due("one is DONE again", p.count(3), 1);
    }

    private static void countBad() {
        edges.sentence("7 TEXTS that are there. BAD.");
        for (int wrong : new int[] {-1, 8, LEAST, MOST}) {
            edges.bad("count(" + wrong + ")", Edges::underWay, p -> p.count(wrong));
            edges.bad("count(" + wrong + ") of a new one", PassedCarry::new, p -> p.count(wrong));
        }
    }

    private static void finding() {
        edges.sentence("The latest FINDING (0 before any).");
        edges.due("finding() of a new one", PassedCarry::new, p -> p.finding(), 0);
        edges.due("behind BAD and STATE alone", PassedCarry::new, p -> p.row(6, 1) + p.begin() + p.finding(), BAD + STATE);
        PassedCarry p = Edges.underWay();
        check.finds("BEYOND", p, p.road(9), BEYOND);
        check.finds("NOTHING", p, p.on(1), NOTHING);
        p.at(0, 0);
        p.row(0, 61);
        p.hill(1);
        p.fault(0);
        p.hill(0);
        check.due("what is fine, BAD, STATE or NONE leaves it", p.finding(), NOTHING);
    }

    private static void findings() {
        edges.sentence("How often a FINDING (1 .. 5) was answered. BAD.");
        for (int wrong : new int[] {-1, 0, 6, LEAST, MOST}) {
            edges.bad("findings(" + wrong + ")", Edges::underWay, p -> p.findings(wrong));
            edges.bad("findings(" + wrong + ") of a new one", PassedCarry::new, p -> p.findings(wrong));
        }
        PassedCarry p = Check.hillOf("y= n1w");
        p.row(0, 0);
        for (int i = 0; i < 5; i++) {
            p.row(0, -1);
            p.mean(i < 4 ? 0 : 6);
            p.mark(0, i < 3 ? 1 : 0);
            p.road(i < 2 ? 1 : 40);
            p.on(i < 1 ? 0 : 3);
        }
        for (int f = 1; f <= 5; f++) {
            check.due("findings(" + f + ")", p.findings(f), f);
        }
        p.hill(0);
        p.findings(0);
        for (int f = 1; f <= 5; f++) {
            check.due("findings(" + f + ") behind a HILL", p.findings(f), f);
        }
    }

    private static long fold(long h, long... values) {
        long all = h;
        for (long v : values) {
            all = 31 * all + v;
        }
        return all;
    }

    private static void digestOfNone() {
        edges.sentence("who has the SACK (-1: no RUNNERS), how many PASSINGS; of each kept RACE STEPS done (-1: missing)");
        long head = fold(17, 0, 0, 0, 0, 0, 0, 0, 0, 0, -1, 0, -1, -1, -1);
        check.due("a new one", new PassedCarry().digest(), fold(head, -1, -1, -1, -1, -1, -1, -1, -1, -1, -1));
        PassedCarry p = Edges.lonely();
        p.keep(1);
        long road = fold(17, 2, 0, 0, 0, 0, 1, 0, 1, 0, 0, 0, -1, 0, -1, 0, -1);
        long rows = fold(road, -1, -1, -1, -1, -1, -1);
        check.due("no RUNNERS", p.digest(), fold(rows, 3, 'y', '=', '=', -1, -1, -1));
    }

    private static void digestOfMissingOnes() {
        edges.sentence("of each ROW its size (-1: missing) and places, of each TEXT likewise.");
        PassedCarry p = new PassedCarry();
        p.row(0, 0);
        p.row(2, 2);
        p.lay(2, 0, LEAST);
        p.lay(2, 1, MOST);
        p.row(5, 1);
        p.tear(5);
        p.text(1, 0);
        p.text(3, 2);
        p.put(3, 1, 255);
        long head = fold(17, 0, 0, 0, 0, 0, 0, 2, 2, 0, -1, 0, -1, -1, -1);
        long rows = fold(head, 0, -1, 2, LEAST, MOST, -1, -1, -1);
        check.due("empty ones and missing ones", p.digest(), fold(rows, -1, 0, -1, 2, 32, -1));
        PassedCarry q = new PassedCarry();
        q.row(4, 60);
        q.row(4, 1);
        long one = fold(17, 0, 0, 0, 0, 0, 0, 1, 0, 0, -1, 0, -1, -1, -1, -1, -1, -1, -1, 1, 0, -1);
        check.due("no place behind the size", q.digest(), fold(one, -1, -1, -1, -1));
    }

    private static void digestOfAll() {
        edges.sentence("count() 0 to 7; LAW; of each YARD its SLOPE; of each RUNNER about() 0 to 3, its PACES, told() 0 to 4, passed()");
        PassedCarry p = Check.hillOf("y/== n9ws u8rz");
        p.law(1);
        p.head(0, 5);
        p.go(1);
        p.keep(2);
        p.go(1);
        check.due("digest()", p.digest(), digestOfAllByHand());
    }

    /** STEP 0: RUNNER 0 goes 1 up with the SACK, past RUNNER 1; that goes 2 with it, past RUNNER 0. */
    private static long digestOfAllByHand() {
        String text = "y/== n9ws u8rz";
        long h = fold(17, 3, 2, 2, 1, 0, 1, 0, 1);
        h = fold(h, 1, 1, 0, 0);
        // 9 and 1, less 1 for the SLOPE and 1 for the SACK; then 3 and 1 for the SACK: 4; DONE in STEP 1.
        h = fold(h, 0, 9, 5, 2, 1, 3, 3, 4, 1, 1, 3, 2);
        // 8 less 1 and 1 for the SLOPE, then at rest 8 again.
        h = fold(h, 5, 8, 0, 2, 2, 0, 2, 8, NONE, 2, 2, 1);
        h = fold(h, 1, 3, -1, -1, 1);
        h = fold(h, -1, -1, -1, -1, -1, -1);
        h = fold(h, text.length());
        for (char c : text.toCharArray()) {
            h = fold(h, c);
        }
        return fold(h, -1, -1, -1);
    }
}
