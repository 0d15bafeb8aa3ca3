/** Promises 28 to 32: choices, by hand. */
public final class ChoicesTest {
    private static final int BAD = PassedCarry.BAD, NONE = PassedCarry.NONE;
    private static final Check check = new Check("ChoicesTest");

    public static void main(String[] args) {
        refused();
        best();
        free();
        duel();
        pact();
        worth();
        choicesBehindTheEnd();
        figuresOfLaterSteps();
        check.end();
    }

    private static void refused() {
        PassedCarry p = Check.hillOf("y==== n9r n9w n9w");
        int[] wrong = {-1, 3, Integer.MIN_VALUE, Integer.MAX_VALUE};
        for (int x : wrong) {
            check.due("best()", p.best(x, 1), BAD);
            check.due("free()", p.free(x, 1), BAD);
            check.due("duel() x", p.duel(x, 1, 1), BAD);
            check.due("duel() y", p.duel(1, x, 1), BAD);
            check.due("pact() x", p.pact(x, 1, 2, 1), BAD);
            check.due("pact() y", p.pact(0, x, 2, 1), BAD);
            check.due("pact() z", p.pact(0, 1, x, 1), BAD);
            check.due("worth() x", p.worth(x, 1, 1), BAD);
            check.due("worth() y", p.worth(1, x, 1), BAD);
        }
        check.due("best(0, 0)", p.best(0, 0), BAD);
        check.due("best(0, 5)", p.best(0, 5), BAD);
        check.due("free(0, 0)", p.free(0, 0), BAD);
        check.due("free(0, 5)", p.free(0, 5), BAD);
        check.due("duel(0, 1, -1)", p.duel(0, 1, -1), BAD);
        check.due("duel(0, 1, 3)", p.duel(0, 1, 3), BAD);
        check.due("duel(1, 1, 0)", p.duel(1, 1, 0), BAD);
        check.due("pact(0, 1, 2, 0)", p.pact(0, 1, 2, 0), BAD);
        check.due("pact(0, 1, 2, 3)", p.pact(0, 1, 2, 3), BAD);
        check.due("pact(0, 0, 2, 1)", p.pact(0, 0, 2, 1), BAD);
        check.due("pact(0, 2, 2, 1)", p.pact(0, 2, 2, 1), BAD);
        check.due("pact(2, 0, 2, 1)", p.pact(2, 0, 2, 1), BAD);
        check.due("worth(0, 0, 1)", p.worth(0, 0, 1), BAD);
        check.due("worth(0, 1, 0)", p.worth(0, 1, 0), BAD);
        check.due("worth(0, 1, 3)", p.worth(0, 1, 3), BAD);
        check.due("asked() stays", p.asked(), 0);
        check.fraction("refused", p, 0, 1);
    }

    private static void best() {
        PassedCarry p = Check.hillOf("y==== n9r n9w");
        check.due("best(0, 1)", p.best(0, 1), 0);
        check.due("best(0, 1) by asked()", p.asked(), 10);
        check.due("best(1, 1)", p.best(1, 1), 0);
        check.due("best(1, 1) by asked(): it PAYS", p.asked(), 21);
        check.due("best(1, 4)", p.best(1, 4), 0);
        check.due("best(1, 4) by asked()", p.asked(), 21);
        check.due("the RACE stays", p.count(2), 0);
        // Alone with the SACK, 3 YARDS: by 0 it is DONE later, but first all the same.
        PassedCarry q = Check.hillOf("y=== n9w");
        check.due("best(0, 2)", q.best(0, 2), 0);
        check.due("best(0, 2) by asked()", q.asked(), 11);
        // By 1 and less RUNNER 1 is DONE behind RUNNER 0, by 2 and more it is ahead.
        PassedCarry s = Check.hillOf("y== n9zr n9w");
        check.due("best(1, 1): not paying, then the RANK", s.best(1, 1), 2);
        check.due("best(1, 1) by asked()", s.asked(), 10);
    }

    private static void free() {
        PassedCarry p = Check.hillOf("y==== n9r n9w");
        check.due("free(0, 1)", p.free(0, 1), 4);
        check.fraction("free(0, 1)", p, 1, 1);
        check.due("free(1, 1)", p.free(1, 1), 0);
        check.fraction("free(1, 1)", p, 0, 1);
        // RUNNER 0 goes to the end with the SACK, and RUNNER 1 gets it, but for a PACE of 0.
        PassedCarry q = Check.hillOf("y= n9z n9z");
        check.due("free(0, 1)", q.free(0, 1), 3);
        check.fraction("free(0, 1)", q, 3, 4);
        check.due("free(0, 2)", q.free(0, 2), 15);
        check.fraction("free(0, 2)", q, 15, 16);
        check.due("free(0, 4)", q.free(0, 4), 255);
        check.fraction("free(0, 4)", q, 255, 256);
        check.due("asked() stays", q.asked(), 0);
    }

    private static void duel() {
        PassedCarry p = Check.hillOf("y==== n9r n9w");
        check.due("duel(0, 1, 0)", p.duel(0, 1, 0), 2);
        check.due("duel(0, 1, 0) by asked()", p.asked(), NONE);
        check.due("duel(1, 0, 0)", p.duel(1, 0, 0), 0);
        check.due("duel(0, 1, 1)", p.duel(0, 1, 1), 2);
        check.due("duel(0, 1, 1) by asked()", p.asked(), 2);
        check.due("duel(1, 0, 1)", p.duel(1, 0, 1), 0);
        check.due("duel(1, 0, 1) by asked()", p.asked(), 0);
        check.due("the RACE stays", p.count(2), 0);
        PassedCarry q = Check.hillOf("y= n9z n9w n9w");
        check.due("a third one PAYS, whatever they do", q.duel(1, 2, 1), 1);
        check.due("duel(1, 2, 1) by asked()", q.asked(), 0);
    }

    private static void pact() {
        PassedCarry p = Check.hillOf("y= n1s n1w n1w");
        check.due("pact(0, 1, 2, 1)", p.pact(0, 1, 2, 1), 5);
        check.due("pact(0, 1, 2, 1) by asked()", p.asked(), 9);
        PassedCarry q = Check.hillOf("y== n9w n9w n9w");
        check.due("pact(0, 2, 1, 1)", q.pact(0, 2, 1, 1), 4);
        check.due("pact(0, 2, 1, 1) by asked()", q.asked(), 7);
        // RUNNER 0 goes to the end at once and can't come to PAY.
        PassedCarry s = Check.hillOf("y= n9w n9w n9w");
        check.tells("asked() ahead", s, s.about(0, 1), 9);
        check.due("pact(1, 2, 0, 2)", s.pact(1, 2, 0, 2), NONE);
        check.due("asked() stays with NONE", s.asked(), 9);
    }

    private static void worth() {
        PassedCarry p = Check.hillOf("y== n9w n9w n9w");
        check.due("pays()", p.pays(), 2);
        check.due("worth(0, 2, 1)", p.worth(0, 2, 1), 1);
        check.due("worth(0, 2, 1) by asked()", p.asked(), 2);
        check.due("who PAYS as it is counts for nothing", p.worth(0, 1, 1), 0);
        check.due("worth(0, 1, 1) by asked()", p.asked(), 0);
        PassedCarry q = Check.hillOf("y= n9w n9w");
        check.due("no others", q.worth(0, 1, 2), 0);
        check.due("worth(0, 1, 2) by asked()", q.asked(), 0);
        // Only if both rest in STEP 0, RUNNER 1 comes to pass RUNNER 2 once more, in STEP 2.
        PassedCarry s = Check.hillOf("y==== n9z n9w n9zw");
        check.due("pays()", s.pays(), 0);
        check.due("pact(0, 1, 2, 1)", s.pact(0, 1, 2, 1), 0);
        check.due("pact(0, 1, 2, 1) by asked()", s.asked(), 1);
        check.due("worth(0, 1, 1)", s.worth(0, 1, 1), 1);
        check.due("worth(0, 1, 1) by asked()", s.asked(), 4);
    }

    private static void choicesBehindTheEnd() {
        PassedCarry p = Check.hillOf("y= n1s n1w n1w");
        p.go(60);
        check.due("pact(0, 1, 2, 1)", p.pact(0, 1, 2, 1), 0);
        check.due("by all rows", p.asked(), 16);
        check.due("pact(0, 1, 2, 2)", p.pact(0, 1, 2, 2), 0);
        check.due("by all rows", p.asked(), 256);
        check.due("pact(0, 2, 1, 2)", p.pact(0, 2, 1, 2), NONE);
        check.due("asked() stays", p.asked(), 256);
        check.due("best(2, 3)", p.best(2, 3), 0);
        check.due("best(2, 3) by asked()", p.asked(), 31);
        check.due("free(2, 3)", p.free(2, 3), 0);
        check.due("free(1, 3)", p.free(1, 3), 64);
        check.fraction("free(1, 3)", p, 1, 1);
        check.due("duel(0, 2, 2)", p.duel(0, 2, 2), 2);
        check.due("duel(0, 2, 2) by asked()", p.asked(), 0);
        check.due("duel(0, 1, 2)", p.duel(0, 1, 2), 1);
        check.due("worth(0, 1, 2)", p.worth(0, 1, 2), 0);
        check.due("the RACE stays", p.count(2), 1);
    }

    /** Only the last of the chosen PACES tells, so that its figure must be the lowest. */
    private static void figuresOfLaterSteps() {
        // RUNNER 0 must go in STEP 0 or 1 or 2 at all, as it never goes by its PLAN.
        PassedCarry p = Check.hillOf("y= n9z n9z");
        check.due("best(0, 1)", p.best(0, 1), 1);
        check.due("best(0, 2)", p.best(0, 2), 1);
        check.due("best(0, 3)", p.best(0, 3), 1);
        check.due("best(0, 3) by asked()", p.asked(), 10);
        // Who goes alone to the end hands the SACK to who stays at YARD 0, least number first.
        PassedCarry q = Check.hillOf("y= n9z n9z n9z");
        check.due("pact(0, 1, 2, 1): x goes", q.pact(0, 1, 2, 1), 1);
        check.due("pact(1, 0, 2, 1): y goes is as good", q.pact(1, 0, 2, 1), 1);
        check.due("pact(0, 1, 2, 2)", q.pact(0, 1, 2, 2), 1);
    }
}
