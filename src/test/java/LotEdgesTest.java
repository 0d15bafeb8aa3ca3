import java.math.BigInteger;

/** The edges of promises 33 to 38: head starts, posts, lots. */
public final class LotEdgesTest {
    private static final int NONE = Edges.NONE, NOTHING = Edges.NOTHING, BEYOND = Edges.BEYOND;
    private static final int UNLIKE = Edges.UNLIKE, SIZE = Edges.SIZE, LEAST = Edges.LEAST, MOST = Edges.MOST;
    private static final Edges edges = new Edges("LotEdgesTest");
    private static final Check check = edges.check;

    public static void main(String[] args) {
        fromTheBeginning();
        byTheLaw();
        start();
        fairRefused();
        fair();
        postRefused();
        post();
        couldBad();
        couldNot();
        could();
        odds();
        oddsAtTheEdges();
        seasonRefused();
        season();
        seasonAnew();
        edges.end();
    }

    private static void fromTheBeginning() {
        edges.sentence("(from a RACE's beginning; the RACE stays)");
        edges.stays("start()", Edges::underWay, p -> p.start(1));
        edges.stays("fair()", Edges::underWay, p -> p.fair(3) + p.tear(3));
        edges.stays("post()", Edges::underWay, p -> p.post(8, 3) + p.tear(3));
        edges.stays("could()", Edges::underWay, p -> p.could(0, 1, 7));
        edges.stays("odds()", Edges::underWay, p -> p.odds(1));
        edges.stays("season()", Edges::underWay, p -> p.season(40, 1, 3) + p.tear(3));
        PassedCarry p = Check.hillOf("y==== n9r n9w");
        p.go(60);
        check.due("start(1)", p.start(1), 3);
        check.due("fair(0)", p.fair(0), 0);
        check.row("fair(0)", p, 0, 0, 2);
        check.due("post(4, 0)", p.post(4, 0), 2);
        check.row("post(4, 0)", p, 0, 0, 1);
        check.due("odds(1)", p.odds(1), 9);
        check.due("season(5, 1, 0)", p.season(5, 1, 0), 1);
        check.row("season(5, 1, 0)", p, 0, 0, 5);
    }

    /** RUNNER 0 goes up past both: by LAW 0 RUNNER 2 PAYS, by LAW 1 RUNNER 1, by LAW 2 RUNNER 0. */
    private static PassedCarry past(int law) {
        PassedCarry p = Check.hillOf("y^ n9w n9z n9z");
        p.law(law);
        return p;
    }

    /** All go up at first, and who has carried the SACK there has no BREATH left to run on. */
    private static PassedCarry outOfBreath(int law) {
        PassedCarry p = Check.hillOf("y/== n1w n1r n1r");
        p.law(law);
        return p;
    }

    private static void byTheLaw() {
        edges.sentence("The LAW is v (0 .. 2; at once)");
        int[][] starts = {{0, 0, 1}, {0, 1, 0}, {NONE, 0, 0}};
        int[][] orders = {{1, 0, 2}, {0, 1, 2}, {1, 2, 0}};
        int[][] heads = {{1, 0, 1}, {0, 0, 0}, {1, 0, 0}};
        for (int law = 0; law < 3; law++) {
            String by = " by LAW " + law;
            PassedCarry p = past(law);
            int payer = 2 - law;
            int[] suppers = new int[3];
            suppers[payer] = 6;
            for (int x = 0; x < 3; x++) {
                check.due("start(" + x + ")" + by, p.start(x), starts[law][x]);
                check.due("odds(" + x + ")" + by, p.odds(x), x == payer ? 27 : 0);
            }
            check.due("season()" + by, p.season(6, 1, 0), payer);
            check.row("season()" + by, p, 0, suppers);
            PassedCarry q = outOfBreath(law);
            check.due("post(3, 0)" + by, q.post(3, 0), 3);
            check.row("post(3, 0)" + by, q, 0, orders[law]);
            check.due("fair(1)" + by, q.fair(1), 0);
            check.row("fair(1)" + by, q, 1, heads[law]);
        }
    }

    private static void start() {
        edges.sentence("The least HEAD START (0 .. 9; others as told) by which a RUNNER does not PAY. NONE: by none. BAD.");
        for (int wrong : new int[] {-1, 3, LEAST, MOST}) {
            edges.bad("start(" + wrong + ")", Edges::underWay, p -> p.start(wrong));
        }
        edges.bad("start(0) of a new one", PassedCarry::new, p -> p.start(0));
        edges.bad("start(0) without RUNNERS", Edges::lonely, p -> p.start(0));
        edges.due("0", () -> Check.hillOf("y==== n9r n9w"), p -> p.start(0), 0, 0);
        // RUNNER 1 never goes, and is passed but for being DONE at first.
        edges.due("9", () -> Check.hillOf("y" + "=".repeat(9) + "n9w n9z"), p -> p.start(1), 9);
        edges.none("10 there is not", () -> Check.hillOf("y" + "=".repeat(10) + "n9w n9z"), p -> p.start(1));
        edges.none("one alone", () -> Check.hillOf("y= n9w"), p -> p.start(0));
        PassedCarry p = Check.hillOf("y==== n9r n9w");
        p.head(1, 9);
        check.due("its own HEAD START as told does not tell", p.start(1), 3);
        check.due("others as told", p.start(0), NONE);
        p.head(1, 3);
        check.due("others as told, and no RACE begun", p.start(0), 2);
        check.tells("it stays as told", p, p.about(0, 2), 0);
    }

    private static void fairRefused() {
        edges.sentence("come to a ROW (anew): how far. BAD; STATE: no RUNNERS.");
        for (int wrong : new int[] {-1, 6, LEAST, MOST}) {
            edges.bad("fair(" + wrong + ")", Edges::underWay, p -> p.fair(wrong));
            edges.bad("fair(" + wrong + ") of a new one", PassedCarry::new, p -> p.fair(wrong));
        }
        edges.state("fair(0) of a new one", PassedCarry::new, p -> p.fair(0));
        edges.state("fair(0) without RUNNERS", Edges::lonely, p -> p.fair(0));
    }

    private static void fairIs(String hill, int apart, int... heads) {
        PassedCarry p = Check.hillOf(hill);
        p.head(0, 9);
        p.row(5, 60);
        check.due("fair(5) of " + hill, p.fair(5), apart);
        check.row("fair(5) of " + hill, p, 5, heads);
        check.due("fair(0) of " + hill, p.fair(0), apart);
        check.row("fair(0) of " + hill, p, 0, heads);
        check.tells("the HEAD START stays", p, p.about(0, 2), 9);
    }

    private static void fair() {
        edges.sentence("HEAD STARTS (0 .. 3 for each; of alike ones the first, by RUNNERS)");
        fairIs("y= n9w", 0, 0);
        fairIs("y==== n9r n9w", 0, 0, 2);
        fairIs("y=== n9z n9z", 0, 0, 0);
        fairIs("y=== n9z n9w", 0, 3, 2);
        fairIs("y" + "=".repeat(8) + "n9r n9w", 1, 0, 3);
        // Neither is DONE, if RUNNER 0 has the SACK at YARD 2: by 0 and 2, by 2 and 0, by more.
        fairIs("y\\\\^ h1zr n4z", 0, 0, 2);
        edges.sentence("by which the STEPS in which RUNNERS are DONE (60: not) are least apart (the greatest less the least)");
        // With 4 YARDS RUNNER 0 is never DONE, and RUNNER 1 is so in STEP 3 at the latest.
        fairIs("y==== n9z n9w", 57, 0, 0);
        fairIs("y==== n9z h9s", 60, 0, 0);
        fairIs("y== n9w n9w n9z", 0, 1, 1, 2);
        // Of five, four need 2 YARDS ahead to be DONE in STEP 1, as the last one is.
        fairIs("y==== n9w n9w n9w n9w n9r", 0, 2, 2, 2, 2, 0);
    }

    private static void postRefused() {
        edges.sentence("BAD: not 1 .. 40; STATE: no ROAD; BEYOND: more than there are YARDS.");
        for (int wrong : new int[] {-1, 0, 41, LEAST, MOST}) {
            edges.bad("post(" + wrong + ", 0)", Edges::underWay, p -> p.post(wrong, 0));
            edges.bad("post(" + wrong + ", 0) of a new one", PassedCarry::new, p -> p.post(wrong, 0));
        }
        for (int wrong : new int[] {-1, 6, LEAST, MOST}) {
            edges.bad("post(1, " + wrong + ")", Edges::underWay, p -> p.post(1, wrong));
            edges.bad("post(9, " + wrong + ")", Edges::underWay, p -> p.post(9, wrong));
            edges.bad("post(1, " + wrong + ") of a new one", PassedCarry::new, p -> p.post(1, wrong));
        }
        edges.state("post(1, 0) of a new one", PassedCarry::new, p -> p.post(1, 0));
        edges.state("post(40, 0) of a new one", PassedCarry::new, p -> p.post(40, 0));
        edges.finds("post(9, 0) of 8", Edges::underWay, p -> p.post(9, 0), BEYOND);
        edges.finds("post(40, 3) of 8", Edges::underWay, p -> p.post(40, 3), BEYOND);
        edges.finds("post(3, 0) of 2", Edges::lonely, p -> p.post(3, 0), BEYOND);
        edges.due("post(8, 0) of 8", Edges::underWay, p -> p.post(8, 0), 3, 77);
        edges.due("post(40, 0) of 40", () -> Check.hillOf("y" + "=".repeat(40) + "n9w"), p -> p.post(40, 0), 1);
    }

    private static void postIs(String hill, int[] heads, int y, int... order) {
        PassedCarry p = Check.hillOf(hill);
        for (int x = 0; x < heads.length; x++) {
            p.head(x, heads[x]);
        }
        p.row(4, 60);
        check.due("post(" + y + ", 4) of " + hill, p.post(y, 4), order.length);
        check.row("post(" + y + ", 4) of " + hill, p, 4, order);
        check.due("post(" + y + ", 1) of " + hill, p.post(y, 1), order.length);
        check.row("post(" + y + ", 1) of " + hill, p, 1, order);
    }

    private static void post() {
        edges.sentence("The order in which RUNNERS come to a YARD or over it (by STEPS, then as they go) comes to a ROW");
        int[] none = {};
        postIs("y==== n9w n9w n9r", none, 1, 0, 1, 2);
        postIs("y==== n9w n9w n9r", none, 2, 2, 0, 1);
        postIs("y==== n9w n9w n9r", none, 4, 2, 0, 1);
        postIs("y==== n9z n9s n9s", none, 1, 1, 2);
        postIs("y== n9w n9w n9w n9w n9r", none, 2, 4, 0, 1, 2, 3);
        edges.sentence("(anew; those who do not, not; HEAD STARTS ahead of it: by numbers): how many.");
        postIs("y==== n9z n9z", none, 1);
        postIs("y==", none, 1);
        postIs("y==", none, 2);
        postIs("y==== n9z n9w n9z n9r", new int[] {0, 0, 4, 0}, 2, 2, 3, 1);
        postIs("y==== n9z n9w n9z n9r", new int[] {2, 0, 4, 0}, 2, 0, 2, 3, 1);
        postIs("y==== n9z n9w n9z n9r", new int[] {1, 0, 9, 1}, 2, 2, 3, 1);
        postIs("y==== n9z n9z n9z", new int[] {4, 5, 9}, 4, 0, 1, 2);
        postIs("y==== n9z n9z n9z", new int[] {9, 3, 4}, 4, 0, 2);
    }

    private static PassedCarry orders(int[] first, int[] later) {
        PassedCarry p = Check.hillOf("y= n9w n9w n9w n9w");
        Edges.order(p, 0, first);
        Edges.order(p, 1, later);
        return p;
    }

    private static void couldBad() {
        edges.sentence("BAD: also a set of RUNNERS that there are not");
        for (int wrong : new int[] {-1, 6, LEAST, MOST}) {
            edges.bad("could(" + wrong + ", 1, 0)", Edges::underWay, p -> p.could(wrong, 1, 0));
            edges.bad("could(0, " + wrong + ", 0)", Edges::underWay, p -> p.could(0, wrong, 0));
        }
        for (int wrong : new int[] {-1, 8, 9, 16, 32, 1 << 30, LEAST, MOST}) {
            edges.bad("could(0, 1, " + wrong + ")", Edges::underWay, p -> p.could(0, 1, wrong));
            edges.bad("could(3, 5, " + wrong + ")", Edges::underWay, p -> p.could(3, 5, wrong));
        }
        edges.bad("could(0, 0, 1) without RUNNERS", Edges::lonely, p -> p.could(0, 0, 1));
        edges.finds("could(0, 0, 0) of a new one", PassedCarry::new, p -> p.could(0, 0, 0), NOTHING);
        edges.due("could(0, 0, 7)", Edges::underWay, p -> p.could(0, 0, 7), 7, 77);
        edges.due("could(0, 0, 0)", Edges::underWay, p -> p.could(0, 0, 0), 0);
        edges.due("could(0, 0, 31) of five", LotEdgesTest::five, p -> p.could(0, 0, 31), 31);
        edges.bad("could(0, 0, 32) of five", LotEdgesTest::five, p -> p.could(0, 0, 32));
    }

    private static PassedCarry five() {
        PassedCarry p = Check.hillOf("y= n1w n1w n1w n1w n1w");
        Edges.order(p, 0, 4, 3, 2, 1, 0);
        return p;
    }

    private static void unlike(String why, int[] first, int[] later) {
        edges.finds(why, () -> orders(first, later), p -> p.could(0, 1, 1), UNLIKE);
    }

    private static void couldNot() {
        edges.sentence("NOTHING: either; SIZE: not as many in both; UNLIKE: no RUNNER, twice, or not the same ones.");
        edges.finds("the first is missing", Edges::underWay, p -> p.could(3, 1, 1), NOTHING);
        edges.finds("the later is missing", Edges::underWay, p -> p.could(0, 3, 1), NOTHING);
        edges.finds("both are missing", Edges::underWay, p -> p.could(3, 5, 1), NOTHING);
        edges.finds("fewer at the later", Edges::underWay, p -> p.could(0, 2, 1), SIZE);
        edges.finds("fewer at the first", Edges::underWay, p -> p.could(2, 0, 1), SIZE);
        edges.finds("not as many, and no RUNNERS", () -> orders(new int[] {9, 9}, new int[] {7}), p -> p.could(0, 1, 1), SIZE);
        unlike("no RUNNER", new int[] {0, 4}, new int[] {4, 0});
        unlike("no RUNNER at the first", new int[] {0, 4}, new int[] {1, 0});
        unlike("no RUNNER at the later", new int[] {0, 1}, new int[] {0, 5});
        unlike("below 0", new int[] {0, -1}, new int[] {0, -1});
        unlike("32 more than a RUNNER", new int[] {0, 33}, new int[] {33, 0});
        unlike("the least int", new int[] {LEAST}, new int[] {LEAST});
        unlike("the greatest int", new int[] {MOST}, new int[] {MOST});
        unlike("twice at the first", new int[] {0, 0}, new int[] {0, 1});
        unlike("twice at the later", new int[] {0, 1}, new int[] {1, 1});
        unlike("twice at both", new int[] {2, 2}, new int[] {2, 2});
        unlike("twice and back", new int[] {0, 1, 1}, new int[] {0, 0, 1});
        unlike("not the same ones", new int[] {0, 1}, new int[] {0, 2});
        unlike("more than there are", new int[] {0, 1, 2, 3, 3}, new int[] {0, 1, 2, 3, 3});
        edges.finds("no order at all", Edges::underWay, p -> p.could(4, 4, 1), UNLIKE);
    }

    private static void couldIs(int want, int set, int[] first, int[] later) {
        check.due("could with set " + set, orders(first, later).could(0, 1, set), want);
    }

    private static void could() {
        edges.sentence("if nobody is behind one there who was ahead of that one: the set; else those who have been so PASSED.");
        couldIs(9, 9, new int[] {0, 1, 2, 3}, new int[] {0, 1, 2, 3});
        couldIs(15, 15, new int[] {}, new int[] {});
        couldIs(0, 0, new int[] {2, 1}, new int[] {2, 1});
        couldIs(8, 8, new int[] {1}, new int[] {1});
        couldIs(1, 8, new int[] {0, 1}, new int[] {1, 0});
        couldIs(7, 8, new int[] {0, 1, 2, 3}, new int[] {3, 0, 1, 2});
        couldIs(1, 8, new int[] {0, 1, 2, 3}, new int[] {1, 2, 3, 0});
        couldIs(5, 1, new int[] {0, 1, 2, 3}, new int[] {1, 0, 3, 2});
        couldIs(14, 1, new int[] {3, 2, 1, 0}, new int[] {0, 1, 2, 3});
        couldIs(12, 0, new int[] {3, 2, 1}, new int[] {1, 2, 3});
        couldIs(4, 2, new int[] {0, 2, 3}, new int[] {0, 3, 2});
    }

    private static void oddsAre(String hill, int head, int x, int ways, int upper, int lower) {
        PassedCarry p = Check.hillOf(hill);
        p.head(0, head);
        check.due("odds(" + x + ") of " + hill, p.odds(x), ways);
        check.fraction("odds(" + x + ") of " + hill, p, upper, lower);
        check.due("nothing by asked()", p.asked(), 0);
    }

    private static void odds() {
        edges.sentence("told by upper(), lower(): of how many such RACES. BAD.");
        for (int wrong : new int[] {-1, 3, LEAST, MOST}) {
            edges.bad("odds(" + wrong + ")", Edges::underWay, p -> p.odds(wrong));
        }
        edges.bad("odds(0) of a new one", PassedCarry::new, p -> p.odds(0));
        edges.bad("odds(0) without RUNNERS", Edges::lonely, p -> p.odds(0));
        oddsAre("y= n5w", 0, 0, 3, 1, 1);
        oddsAre("y= n5w n5w", 0, 0, 0, 0, 1);
        oddsAre("y= n5w n5w", 0, 1, 9, 1, 1);
        oddsAre("y= n5w n5w n5w n5w n5w", 0, 4, 243, 1, 1);
        oddsAre("y= n5w n5w n5w n5w n5w", 0, 3, 0, 0, 1);
    }

    private static void oddsAtTheEdges() {
        edges.sentence("if the most BREATH of each is, as likely, one less, as told, or one more (1 at least)");
        // With the SACK it takes a BREATH of 2 to go up: one less than 1 is 1, so two of three stay.
        oddsAre("y^ n1w n9z", 0, 0, 6, 2, 3);
        oddsAre("y^ n1w n9z", 0, 1, 3, 1, 3);
        oddsAre("y^ n2w n9z", 0, 0, 3, 1, 3);
        oddsAre("y^ n3w n9z", 0, 0, 0, 0, 1);
        // Up a lesser SLOPE 1 is enough, and 0, which there is not, would not be.
        oddsAre("y/ n1w n9z", 0, 0, 0, 0, 1);
        oddsAre("y/ n1w n9z", 0, 1, 9, 1, 1);
        // With 10 RUNNER 1 is DONE in STEP 3, with 8 or 9 the HARE comes to pass it in STEP 4.
        oddsAre("y" + "=".repeat(11) + "h9zzzzs n9s", 7, 0, 3, 1, 3);
        oddsAre("y" + "=".repeat(11) + "h9zzzzs n9s", 7, 1, 6, 2, 3);
    }

    private static void seasonRefused() {
        edges.sentence("A season of n (1 .. 40) RACES by a seed (1 .. 2147483646)");
        for (int wrong : new int[] {-1, 0, 41, LEAST, MOST}) {
            edges.bad("season(" + wrong + ", 1, 0)", Edges::underWay, p -> p.season(wrong, 1, 0));
            edges.bad("season(" + wrong + ", 1, 0) of a new one", PassedCarry::new, p -> p.season(wrong, 1, 0));
        }
        for (int wrong : new int[] {-1, 0, MOST, LEAST}) {
            edges.bad("season(1, " + wrong + ", 0)", Edges::underWay, p -> p.season(1, wrong, 0));
            edges.bad("season(1, " + wrong + ", 0) of a new one", PassedCarry::new, p -> p.season(1, wrong, 0));
        }
        for (int wrong : new int[] {-1, 6, LEAST, MOST}) {
            edges.bad("season(1, 1, " + wrong + ")", Edges::underWay, p -> p.season(1, 1, wrong));
            edges.bad("season(1, 1, " + wrong + ") of a new one", PassedCarry::new, p -> p.season(1, 1, wrong));
        }
        edges.sentence("who PAYS most (the first). BAD; STATE: no RUNNERS.");
        edges.state("season(1, 1, 0) of a new one", PassedCarry::new, p -> p.season(1, 1, 0));
        edges.state("season(40, 1, 0) without RUNNERS", Edges::lonely, p -> p.season(40, 1, 0));
        // RUNNER 0 has 2 BREATH, then 1: it goes up in the first RACE, and PAYS in the second.
        PassedCarry p = Check.hillOf("y^ n2w n9z");
        check.due("as often", p.season(2, 1, 1), 0);
        check.row("as often", p, 1, 1, 1);
    }

    /** RUNNER 0 goes up with 2 BREATH or more, and then RUNNER 1 PAYS; else RUNNER 0 does. */
    private static void seasonIs(int breath, int n, int seed) {
        BigInteger prime = BigInteger.valueOf(2147483647);
        BigInteger number = BigInteger.valueOf(seed);
        int[] suppers = new int[2];
        for (int i = 0; i < 2 * n; i++) {
            number = number.multiply(BigInteger.valueOf(48271)).mod(prime);
            if (i % 2 == 0) {
                int lot = number.mod(BigInteger.valueOf(3)).intValue() - 1;
                suppers[Math.max(1, breath + lot) >= 2 ? 1 : 0]++;
            }
        }
        PassedCarry p = Check.hillOf("y^ n" + breath + "w n9z");
        p.row(3, 60);
        String call = "season(" + n + ", " + seed + ", 3), BREATH " + breath;
        check.due(call, p.season(n, seed, 3), suppers[1] > suppers[0] ? 1 : 0);
        check.row(call, p, 3, suppers);
    }

    private static void seasonAnew() {
        edges.sentence("suppers that each PAYS come to a ROW (anew): who PAYS most (the first).");
        PassedCarry p = Check.hillOf("y= n5w n5w n5w n5w n5w");
        check.due("40 RACES of five", p.season(40, 1, 0), 4);
        check.row("40 RACES of five", p, 0, 0, 0, 0, 0, 40);
        check.due("a season behind another", p.season(3, 5, 0), 4);
        check.row("a season behind another", p, 0, 0, 0, 0, 0, 3);
        // With a HEAD START to the end the last one is DONE at first, and nobody passes it.
        p.head(4, 1);
        check.due("HEAD STARTS as told", p.season(3, 5, 0), 3);
        check.row("HEAD STARTS as told", p, 0, 0, 0, 0, 3, 0);
        edges.sentence("(1 at least): suppers that each PAYS");
        PassedCarry q = Check.hillOf("y/ n1w n9z");
        check.due("with 1 at least one goes up", q.season(40, 7, 2), 1);
        check.row("with 1 at least one goes up", q, 2, 0, 40);
    }

    private static void season() {
        edges.sentence("a number comes from the one ahead by 48271 times it modulo 2147483647; RACE by RACE, RUNNER by RUNNER one:"
            + " the most BREATH is by it modulo 3 less 1 more (1 at least): suppers that each PAYS come to a ROW (anew)");
        for (int seed : new int[] {1, 2, 3, 44488, 44489, 1234567, 2000000000, 2147483645, 2147483646}) {
            for (int n : new int[] {1, 2, 39, 40}) {
                seasonIs(1, n, seed);
                seasonIs(2, n, seed);
            }
        }
        PassedCarry p = Edges.underWay();
        p.season(1, 7, 3);
        check.due("a ROW that was missing is there", p.count(6), 5);
        check.tells("the most BREATH stays", p, p.about(0, 1), 5);
        check.due("as many places as RUNNERS", p.at(3, 3), Edges.FINDING);
        check.due("nothing comes to places behind them", p.at(3, 2), 1);
    }
}
