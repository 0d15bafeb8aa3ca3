/** The edges of promises 28 to 32: best paces, duels, pacts. */
public final class ChoiceEdgesTest {
    private static final int NONE = Edges.NONE, LEAST = Edges.LEAST, MOST = Edges.MOST;
    private static final Edges edges = new Edges("ChoiceEdgesTest");
    private static final Check check = edges.check;

    /** HILLS whose RACES end in at most 8 STEPS, so that no PACE of a PLAN comes twice. */
    private static final String[] ROADS = {"====", "=^\\=/", "/==\\\\", "=====", "^==/="};
    private static final String[][] RUNNERS = {
        {"n9rwwwwwww", "n9wwwwwwww", "n9zwrwwwww"},
        {"n5wwrwwwww", "g3rrwwwwww", "o4wswwwwww"},
        {"h6swwwwwww", "m4wzrwwwww", "u3swwwwwww", "n9wwwwwwww"},
        {"n2srwwwwww", "h3wswwwwww", "n2rrwwwwww"},
        {"o3wwwwwwww", "g2wwwwwwww", "n9zrwwwwww", "h9wzswwwww", "n8rwwwwwww"}};

    public static void main(String[] args) {
        choicesStay();
        onlyOneStepLeft();
        bestRefused();
        best();
        freeRefused();
        free();
        duelRefused();
        duelOfNoSteps();
        duel();
        pactRefused();
        pact();
        worthRefused();
        worth();
        byTables();
        edges.end();
    }

    private static void choicesStay() {
        edges.sentence("(from the RACE as it is, to its end; it stays)");
        edges.stays("best()", Edges::underWay, p -> p.best(0, 4));
        edges.stays("free()", Edges::underWay, p -> p.free(1, 4));
        edges.stays("duel()", Edges::underWay, p -> p.duel(2, 0, 2));
        edges.stays("pact()", Edges::underWay, p -> p.pact(2, 1, 0, 2));
        edges.stays("worth()", Edges::underWay, p -> p.worth(1, 2, 2));
        // Behind STEP 0 nobody is left whom RUNNER 0 could pass.
        PassedCarry p = Check.hillOf("y= n9z n9w");
        check.due("free(0, 1) at the beginning", p.free(0, 1), 3);
        p.go(1);
        check.due("free(0, 1) behind STEP 0", p.free(0, 1), 0);
    }

    /** A RACE with STEP 59 to come, the last one. */
    private static PassedCarry late(String hill) {
        PassedCarry p = Check.hillOf(hill);
        p.go(59);
        return p;
    }

    /** PACES chosen for STEPS behind the last one are of no use: what counts is the first. */
    private static void onlyOneStepLeft() {
        edges.sentence("(from the RACE as it is, to its end; it stays)");
        edges.due("best()", () -> late("y== n9z n9z"), p -> p.best(0, 4), 64, 10);
        edges.due("free()", () -> late("y== n9z n9z"), p -> p.free(0, 4), 192);
        edges.due("pact()", () -> late("y= n9z n9z n9z"), p -> p.pact(0, 1, 2, 2), 16, 240);
        for (String hill : new String[] {"y= n9z n9z n9z", "y== n9z g9z h9z", "y=== n9z n9wz n9z", "y==== n9z o9z n9z n9z"}) {
            for (int i = 0; i < 6; i++) {
                int x = i % 3;
                int y = (x + 1 + i / 3) % 3;
                PassedCarry p = late(hill);
                int comesTo = p.duel(x, y, 1);
                int first = p.asked();
                edges.due("duel() of " + x + ", " + y + " on " + hill, () -> late(hill), q -> q.duel(x, y, 2), comesTo, first);
                int worth = p.worth(x, y, 1);
                int who = p.asked();
                edges.due("worth() of " + x + ", " + y + " on " + hill, () -> late(hill), q -> q.worth(x, y, 2), worth, who);
            }
        }
    }

    private static PassedCarry three() {
        return Check.hillOf("y==== n9r n9w n9w");
    }

    private static PassedCarry behindTheEnd() {
        PassedCarry p = Check.hillOf("y= n9w n9w n9w");
        p.go(60);
        return p;
    }

    private static void bestRefused() {
        edges.sentence("10 times the RANK, and 1, if it PAYS, by asked(). BAD.");
        for (int wrong : new int[] {-1, 3, LEAST, MOST}) {
            edges.bad("best(" + wrong + ", 1)", Edges::underWay, p -> p.best(wrong, 1));
        }
        for (int wrong : new int[] {-1, 0, 5, LEAST, MOST}) {
            edges.bad("best(0, " + wrong + ")", Edges::underWay, p -> p.best(0, wrong));
        }
        edges.bad("best(0, 1) of a new one", PassedCarry::new, p -> p.best(0, 1));
        edges.bad("best(0, 1) without RUNNERS", Edges::lonely, p -> p.best(0, 1));
        edges.due("one alone PAYS", () -> Check.hillOf("y= n9w"), p -> p.best(0, 1), 0, 11);
        edges.due("the last one of three PAYS", ChoiceEdgesTest::behindTheEnd, p -> p.best(2, 4), 0, 31);
        edges.due("the first one of three", ChoiceEdgesTest::behindTheEnd, p -> p.best(0, 4), 0, 10);
    }

    private static void best() {
        edges.sentence("A RUNNER's best next k (1 .. 4) PACES, chosen instead of its PLAN's, all others by PLANS");
        // RUNNER 0 never goes by its PLAN; it must go in one of the STEPS, or it PAYS.
        edges.due("k 1", () -> Check.hillOf("y= n9z n9z"), p -> p.best(0, 1), 1, 10);
        edges.due("k 4", () -> Check.hillOf("y= n9z n9z"), p -> p.best(0, 4), 1, 10);
        edges.sentence("so that it does not PAY, then has the least RANK (of alike ones the first)");
        // By 0 it is second, by 1 it PAYS, by 2 and 3 it is first.
        edges.due("the least RANK", () -> Check.hillOf("y==== n9z n9w n9w"), p -> p.best(2, 1), 2, 10);
        // By 1 and more RUNNER 0 is first and keeps the SACK; by 0 RUNNER 2 comes to have it.
        edges.due("not to PAY comes first", ChoiceEdgesTest::firstOrFree, p -> p.best(0, 1), 0, 20);
        edges.due("the first of alike ones", ChoiceEdgesTest::behindTheEnd, p -> p.best(1, 3), 0, 20);
        edges.sentence("as a number to the base of 4, the first PACE the highest figure");
        // It must be there behind two STEPS, ahead of RUNNER 0 and with 4 YARDS to go: 1 and 3.
        edges.due("1, then 3", () -> Check.hillOf("y==== n9zzs n9z"), p -> p.best(1, 2), 7, 10);
    }

    private static PassedCarry firstOrFree() {
        PassedCarry p = Check.hillOf("y==== n9w h9s n9z n9w");
        p.head(0, 3);
        p.begin();
        return p;
    }

    private static void freeRefused() {
        edges.sentence("told by upper(), lower(): how many. BAD.");
        for (int wrong : new int[] {-1, 3, LEAST, MOST}) {
            edges.bad("free(" + wrong + ", 1)", Edges::underWay, p -> p.free(wrong, 1));
        }
        for (int wrong : new int[] {-1, 0, 5, LEAST, MOST}) {
            edges.bad("free(0, " + wrong + ")", Edges::underWay, p -> p.free(0, wrong));
        }
        edges.bad("free(0, 1) of a new one", PassedCarry::new, p -> p.free(0, 1));
        edges.bad("free(0, 1) without RUNNERS", Edges::lonely, p -> p.free(0, 1));
    }

    private static void freeIs(String hill, int k, int ways, int upper, int lower) {
        PassedCarry p = Check.hillOf(hill);
        check.due("free(0, " + k + ") of " + hill, p.free(0, k), ways);
        check.fraction("free(0, " + k + ") of " + hill, p, upper, lower);
        check.due("nothing by asked()", p.asked(), 0);
    }

    private static void free() {
        edges.sentence("By how many of all 4 to the power of k (1 .. 4) such rows it does not PAY, by all of them");
        freeIs("y= n9z n9z", 1, 3, 3, 4);
        freeIs("y= n9z n9z", 2, 15, 15, 16);
        freeIs("y= n9z n9z", 3, 63, 63, 64);
        freeIs("y= n9z n9z", 4, 255, 255, 256);
        edges.sentence("in lowest terms, the lower number above 0 (0 by 1)");
        freeIs("y= n9z", 1, 0, 0, 1);
        freeIs("y= n9z", 4, 0, 0, 1);
        freeIs("y= n9w n9z", 1, 4, 1, 1);
        freeIs("y= n9w n9z", 4, 256, 1, 1);
        // It comes to the end at once and hands the SACK on by 2 or 3; by 0 or 1 RUNNER 1 passes it.
        freeIs("y== n9z n9r", 1, 2, 1, 2);
    }

    private static void duelRefused() {
        edges.sentence("the first PACE x chooses (the least of alike ones; k 0: NONE) by asked(). BAD: also one RUNNER.");
        for (int wrong : new int[] {-1, 3, LEAST, MOST}) {
            edges.bad("duel(" + wrong + ", 1, 1)", Edges::underWay, p -> p.duel(wrong, 1, 1));
            edges.bad("duel(1, " + wrong + ", 1)", Edges::underWay, p -> p.duel(1, wrong, 1));
            edges.bad("duel(0, 1, " + wrong + ")", Edges::underWay, p -> p.duel(0, 1, wrong));
        }
        for (int x = 0; x < 3; x++) {
            int one = x;
            edges.bad("duel of one, k 0", Edges::underWay, p -> p.duel(one, one, 0));
            edges.bad("duel of one, k 2", Edges::underWay, p -> p.duel(one, one, 2));
        }
        edges.bad("duel(0, 1, 0) of a new one", PassedCarry::new, p -> p.duel(0, 1, 0));
        edges.bad("duel(0, 1, 0) without RUNNERS", Edges::lonely, p -> p.duel(0, 1, 0));
    }

    private static void duelOfNoSteps() {
        edges.sentence("(the least of alike ones; k 0: NONE)");
        edges.due("y PAYS", () -> Check.hillOf("y= n9w n9w n9w"), p -> p.duel(0, 2, 0), 2, NONE);
        edges.due("x PAYS", () -> Check.hillOf("y= n9w n9w n9w"), p -> p.duel(2, 0, 0), 0, NONE);
        edges.due("neither PAYS", () -> Check.hillOf("y= n9w n9w n9w"), p -> p.duel(0, 1, 0), 1, NONE);
        edges.due("all alike: k 1", ChoiceEdgesTest::behindTheEnd, p -> p.duel(0, 1, 1), 1, 0);
        edges.due("all alike: k 2", ChoiceEdgesTest::behindTheEnd, p -> p.duel(0, 2, 2), 2, 0);
    }

    private static void duel() {
        edges.sentence("Worth is 2, if y PAYS, 0, if x does, else 1: x wants it great, y little: what it comes to");
        edges.due("x can make y PAY", () -> Check.hillOf("y==== n9r n9w"), p -> p.duel(0, 1, 1), 2, 2);
        edges.due("x must PAY", () -> Check.hillOf("y==== n9r n9w"), p -> p.duel(1, 0, 1), 0, 0);
        edges.due("a third one PAYS", () -> Check.hillOf("y= n9z n9w n9w"), p -> p.duel(1, 2, 1), 1, 0);
        edges.due("k 2 by none", () -> Check.hillOf("y= n9z n9w n9w"), p -> p.duel(1, 2, 2), 1, 0);
    }

    private static void pactRefused() {
        edges.sentence("NONE: by none. BAD: also any two alike.");
        for (int wrong : new int[] {-1, 3, LEAST, MOST}) {
            edges.bad("pact x " + wrong, Edges::underWay, p -> p.pact(wrong, 1, 2, 1));
            edges.bad("pact y " + wrong, Edges::underWay, p -> p.pact(0, wrong, 2, 1));
            edges.bad("pact z " + wrong, Edges::underWay, p -> p.pact(0, 1, wrong, 1));
        }
        for (int wrong : new int[] {-1, 0, 3, LEAST, MOST}) {
            edges.bad("pact k " + wrong, Edges::underWay, p -> p.pact(0, 1, 2, wrong));
        }
        edges.bad("x and y alike", Edges::underWay, p -> p.pact(0, 0, 2, 1));
        edges.bad("x and z alike", Edges::underWay, p -> p.pact(0, 1, 0, 1));
        edges.bad("y and z alike", Edges::underWay, p -> p.pact(0, 1, 1, 1));
        edges.bad("all alike", Edges::underWay, p -> p.pact(2, 2, 2, 2));
        edges.bad("pact of a new one", PassedCarry::new, p -> p.pact(0, 1, 2, 1));
        edges.none("k 1 by none", () -> asked(behindTheEnd()), p -> p.pact(1, 2, 0, 1));
        edges.none("k 2 by none", () -> asked(behindTheEnd()), p -> p.pact(0, 2, 1, 2));
    }

    /** The same with 9 told by asked(). */
    private static PassedCarry asked(PassedCarry p) {
        p.about(0, 1);
        return p;
    }

    private static void pact() {
        edges.sentence("A PACT of two for k (1 .. 2) STEPS: the first row of PACES (of x, of y in each STEP, one behind"
            + " the other, as a number to the base of 4) by which z PAYS; by how many of all rows by asked().");
        edges.due("by all 16", ChoiceEdgesTest::behindTheEnd, p -> p.pact(0, 1, 2, 1), 0, 16);
        edges.due("by all 256", ChoiceEdgesTest::behindTheEnd, p -> p.pact(0, 1, 2, 2), 0, 256);
        // Both must go at once; 1 and 1 is 5, and each PACE of both but 0 does it.
        edges.due("5", () -> Check.hillOf("y= n1s n1w n1w"), p -> p.pact(0, 1, 2, 1), 5, 9);
        // RUNNER 2 gets it from who goes: 0 and 1 is 1, by RUNNER 1 alone, too.
        edges.due("1", () -> Check.hillOf("y= n9z n9z n9z"), p -> p.pact(0, 1, 2, 1), 1, 15);
        // RUNNER 2 passes whoever is not DONE in STEP 0, so that both must go 3: 15, and nothing else.
        edges.due("by one row alone", () -> Check.hillOf("y=== n9z n9z n9w"), p -> p.pact(0, 1, 2, 1), 15, 1);
        // If RUNNER 1 goes in STEP 1, it passes RUNNER 2 in STEP 2 for good.
        edges.due("by the first row alone", () -> Check.hillOf("y== n1z n1w n9zw"), p -> p.pact(0, 1, 2, 1), 0, 1);
        edges.due("k 2: 1 in the last place", () -> Check.hillOf("y= n9z n9z n9z"), p -> p.pact(0, 1, 2, 2), 1, 255);
    }

    private static void worthRefused() {
        edges.sentence("who they are (bits) by asked(). BAD: also alike, k not 1 .. 2.");
        for (int wrong : new int[] {-1, 3, LEAST, MOST}) {
            edges.bad("worth(" + wrong + ", 1, 1)", Edges::underWay, p -> p.worth(wrong, 1, 1));
            edges.bad("worth(1, " + wrong + ", 1)", Edges::underWay, p -> p.worth(1, wrong, 1));
        }
        for (int wrong : new int[] {-1, 0, 3, LEAST, MOST}) {
            edges.bad("worth(0, 1, " + wrong + ")", Edges::underWay, p -> p.worth(0, 1, wrong));
        }
        edges.bad("worth(0, 0, 1)", Edges::underWay, p -> p.worth(0, 0, 1));
        edges.bad("worth(2, 2, 2)", Edges::underWay, p -> p.worth(2, 2, 2));
        edges.bad("worth of a new one", PassedCarry::new, p -> p.worth(0, 1, 1));
        edges.bad("worth without RUNNERS", Edges::lonely, p -> p.worth(0, 1, 1));
    }

    private static void worth() {
        edges.sentence("how many others can be made to PAY by it (as pact()) who do not PAY as it is");
        edges.due("there are no others", () -> asked(Check.hillOf("y= n9w n9w")), p -> p.worth(0, 1, 2), 0, 0);
        edges.due("the other PAYS as it is", () -> asked(three()), p -> p.worth(0, 1, 1), 0, 0);
        edges.due("the other can be made to", () -> Check.hillOf("y== n9w n9w n9w"), p -> p.worth(0, 2, 1), 1, 2);
        edges.due("by one row alone", () -> Check.hillOf("y=== n9z n9z n9w"), p -> p.worth(0, 1, 1), 1, 4);
        edges.due("by the first row alone", () -> Check.hillOf("y== n1z n1w n9zw"), p -> p.worth(0, 1, 1), 1, 4);
        edges.due("nobody can be made to", () -> asked(behindTheEnd()), p -> p.worth(0, 2, 2), 0, 0);
    }

    // ---- the same by PLANS that have the chosen PACES in them

    private static String planned(String runner, int from, int k, int code) {
        StringBuilder b = new StringBuilder(runner);
        for (int s = 0; s < k; s++) {
            b.setCharAt(2 + from + s, "zwrs".charAt(code >> 2 * (k - 1 - s) & 3));
        }
        return b.toString();
    }

    private static PassedCarry hillOf(String road, String[] runners) {
        PassedCarry p = Check.hillOf("y" + road + String.join(" ", runners));
        p.head(1, 1);
        p.begin();
        return p;
    }

    private static PassedCarry oneChosen(int h, int law, int from, int x, int k, int code) {
        String[] runners = RUNNERS[h].clone();
        runners[x] = planned(runners[x], from, k, code);
        PassedCarry p = hillOf(ROADS[h], runners);
        p.law(law);
        return p;
    }

    /** Who PAYS by each row of PACES of two, of x and of y in each STEP. */
    private static int[] payersByPairs(int h, int law, int from, int x, int y, int k) {
        int[] payers = new int[1 << 4 * k];
        for (int code = 0; code < payers.length; code++) {
            int ofX = 0;
            int ofY = 0;
            for (int s = k - 1; s >= 0; s--) {
                ofX = 4 * ofX + (code >> 4 * s + 2 & 3);
                ofY = 4 * ofY + (code >> 4 * s & 3);
            }
            String[] runners = RUNNERS[h].clone();
            runners[x] = planned(runners[x], from, k, ofX);
            runners[y] = planned(runners[y], from, k, ofY);
            PassedCarry p = hillOf(ROADS[h], runners);
            p.law(law);
            payers[code] = p.pays();
            withinPlans(p);
        }
        return payers;
    }

    /** A PLAN that came round would bring a chosen PACE again. */
    private static void withinPlans(PassedCarry p) {
        p.pays();
        if (p.asked() > 8) {
            check.due("STEPS of a RACE for tables with " + p.count(0) + " YARDS", p.asked(), 8);
        }
    }

    private static void byTables() {
        for (int h = 0; h < ROADS.length; h++) {
            int runners = RUNNERS[h].length;
            for (int turn = 0; turn < 4; turn++) {
                int law = (h + turn) % 3;
                int from = turn % 2;
                int x = (h + turn) % runners;
                int y = (x + 1 + turn % (runners - 1)) % runners;
                ofOne(h, law, from, x, 1 + turn % 3);
                ofTwo(h, law, from, x, y, 1 + turn / 2);
            }
        }
    }

    private static PassedCarry asItIs(int h, int law, int from) {
        PassedCarry p = hillOf(ROADS[h], RUNNERS[h]);
        p.law(law);
        p.go(from);
        return p;
    }

    private static void ofOne(int h, int law, int from, int x, int k) {
        edges.sentence("all others by PLANS: so that it does not PAY, then has the least RANK");
        int best = 0;
        int leastBad = 100;
        int ways = 0;
        for (int code = 0; code < 1 << 2 * k; code++) {
            PassedCarry p = oneChosen(h, law, from, x, k, code);
            boolean pays = p.pays() == x;
            withinPlans(p);
            p.ranks(0);
            p.at(0, x);
            int bad = p.asked() + (pays ? 50 : 0);
            ways += pays ? 0 : 1;
            best = bad < leastBad ? code : best;
            leastBad = Math.min(bad, leastBad);
        }
        String which = "hill " + h + ", law " + law + ", from " + from + ", x " + x + ", k " + k;
        int told = leastBad > 50 ? 10 * (leastBad - 50) + 1 : 10 * leastBad;
        edges.due("best, " + which, () -> asItIs(h, law, from), p -> p.best(x, k), best, told);
        edges.due("free, " + which, () -> asItIs(h, law, from), p -> p.free(x, k), ways);
    }

    /** What it comes to from a row on, by worths of all rows of PACES; x chooses, then y. */
    private static int settled(int[] payers, int x, int y, int code, int left) {
        if (left == 0) {
            return payers[code] == y ? 2 : payers[code] == x ? 0 : 1;
        }
        int great = -1;
        for (int px = 0; px < 4; px++) {
            int little = 3;
            for (int py = 0; py < 4; py++) {
                little = Math.min(little, settled(payers, x, y, 16 * code + 4 * px + py, left - 1));
            }
            great = Math.max(great, little);
        }
        return great;
    }

    private static void ofTwo(int h, int law, int from, int x, int y, int k) {
        int[] payers = payersByPairs(h, law, from, x, y, k);
        String which = "hill " + h + ", law " + law + ", from " + from + ", x " + x + ", y " + y + ", k " + k;
        edges.sentence("in each x its PACE first, then y, who knows it; others by PLANS, behind these all.");
        int comesTo = settled(payers, x, y, 0, k);
        int first = 0;
        for (int px = 3; px >= 0; px--) {
            int little = 3;
            for (int py = 0; py < 4; py++) {
                little = Math.min(little, settled(payers, x, y, 4 * px + py, k - 1));
            }
            first = little == comesTo ? px : first;
        }
        edges.due("duel, " + which, () -> asItIs(h, law, from), p -> p.duel(x, y, k), comesTo, first);
        edges.sentence("how many others can be made to PAY by it (as pact())");
        int others = 0;
        for (int z = 0; z < RUNNERS[h].length; z++) {
            if (z != x && z != y) {
                others |= pactIs(h, law, from, x, y, z, k, payers) ? 1 << z : 0;
            }
        }
        int worth = others & ~(1 << asItIs(h, law, from).pays());
        edges.due("worth, " + which, () -> asItIs(h, law, from), p -> p.worth(x, y, k), Integer.bitCount(worth), worth);
    }

    private static boolean pactIs(int h, int law, int from, int x, int y, int z, int k, int[] payers) {
        int first = NONE;
        int ways = 0;
        for (int code = payers.length - 1; code >= 0; code--) {
            if (payers[code] == z) {
                first = code;
                ways++;
            }
        }
        PassedCarry p = asked(asItIs(h, law, from));
        int before = p.asked();
        check.due("pact with z " + z, p.pact(x, y, z, k), first);
        check.due("pact with z " + z + " by asked()", p.asked(), ways == 0 ? before : ways);
        return ways > 0;
    }
}
