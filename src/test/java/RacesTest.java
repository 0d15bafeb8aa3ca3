/** Promises 18 to 27: races, by hand. */
public final class RacesTest {
    private static final int BAD = PassedCarry.BAD, STATE = PassedCarry.STATE, NONE = PassedCarry.NONE;
    private static final int NOTHING = 1;
    private static final Check check = new Check("RacesTest");

    public static void main(String[] args) {
        refused();
        aShortRace();
        breathWithoutSack();
        breathWithSack();
        passingsByLaws();
        doneKeepsTheSack();
        headStarts();
        sixtySteps();
        ranksAsTheyAre();
        carriedYards();
        keepAndOn();
        paysRanksLaws();
        check.end();
    }

    private static void refused() {
        PassedCarry p = new PassedCarry();
        check.due("begin()", p.begin(), STATE);
        check.due("go(-1)", p.go(-1), BAD);
        check.due("go(61)", p.go(61), BAD);
        check.due("go(0)", p.go(0), STATE);
        check.due("told(0, 0)", p.told(0, 0), BAD);
        check.due("sack()", p.sack(), STATE);
        check.due("passed(0)", p.passed(0), BAD);
        check.due("keep(3)", p.keep(3), BAD);
        check.due("keep(0)", p.keep(0), STATE);
        check.due("on(-1)", p.on(-1), BAD);
        check.finds("on(0)", p, p.on(0), NOTHING);
        check.due("pays()", p.pays(), STATE);
        check.due("ranks(6)", p.ranks(6), BAD);
        check.due("ranks(0)", p.ranks(0), STATE);
        check.due("laws(0)", p.laws(0), BAD);
        PassedCarry q = Check.hillOf("y==");
        check.due("a ROAD, no RUNNERS: sack()", q.sack(), STATE);
        check.due("pays()", q.pays(), STATE);
        check.due("ranks(0)", q.ranks(0), STATE);
        check.due("a refused ROW is not there", q.count(6), 0);
        check.due("laws(0)", q.laws(0), BAD);
        check.due("keep(0)", q.keep(0), 0);
        check.due("on(0)", q.on(0), 0);
        PassedCarry s = Check.hillOf("y== n9w");
        check.due("told(0, 5)", s.told(0, 5), BAD);
        check.due("told(0, -1)", s.told(0, -1), BAD);
        check.due("told(1, 0)", s.told(1, 0), BAD);
        check.due("passed(-1)", s.passed(-1), BAD);
    }

    private static void told(PassedCarry p, int x, int... want) {
        for (int what = 0; what < want.length; what++) {
            check.tells("told(" + x + ", " + what + ")", p, p.told(x, what), want[what]);
        }
    }

    private static void sack(PassedCarry p, int who, int passings) {
        check.due("sack()", p.sack(), who);
        check.due("sack() by asked()", p.asked(), passings);
    }

    private static void aShortRace() {
        PassedCarry p = Check.hillOf("y==== n9r n9w");
        told(p, 0, 0, 9, NONE, 1, 0);
        told(p, 1, 0, 9, NONE, 2, 0);
        sack(p, 0, 0);
        check.due("go(0)", p.go(0), 0);
        check.due("go(1)", p.go(1), 1);
        told(p, 0, 2, 7, NONE, 1, 2);
        told(p, 1, 1, 9, NONE, 2, 1);
        sack(p, 1, 1);
        check.due("passed(0)", p.passed(0), 2);
        check.due("passed(1)", p.passed(1), 0);
        check.due("go(1)", p.go(1), 2);
        told(p, 0, 4, 6, 1, 1, 2);
        check.due("one is DONE", p.count(3), 1);
        check.due("go(60)", p.go(60), 4);
        told(p, 0, 4, 6, 1, 1, 2);
        told(p, 1, 4, 9, 3, 2, 4);
        check.due("both are DONE", p.count(3), 2);
        check.due("none behind the end", p.go(9), 4);
        check.due("begin()", p.begin(), 2);
        told(p, 0, 0, 9, NONE, 1, 0);
        sack(p, 0, 0);
        check.due("passed(0)", p.passed(0), 0);
        check.due("count(2)", p.count(2), 0);
    }

    /** RUNNER 0 rests with the SACK at YARD 0; the YARD and BREATH of RUNNER 1 behind some STEPS. */
    private static void light(char sign, String runner, int steps, int yard, int breath) {
        PassedCarry p = Check.hillOf("y" + String.valueOf(sign).repeat(40) + "n9z " + runner);
        p.go(steps);
        check.tells(sign + runner + ": YARD", p, p.told(1, 0), yard);
        check.tells(sign + runner + ": BREATH", p, p.told(1, 1), breath);
    }

    private static void breathWithoutSack() {
        light('=', "n5z", 1, 0, 5);
        light('=', "n5s", 1, 3, 2);
        light('=', "n5sz", 2, 3, 4);
        light('=', "n5sw", 2, 4, 3);
        light('=', "n5w", 1, 1, 5);
        light('=', "n5r", 2, 4, 3);
        light('=', "n5s", 2, 5, 1);
        light('=', "n1s", 2, 3, 1);
        light('/', "n3s", 1, 2, 1);
        light('/', "n3r", 1, 2, 1);
        light('/', "n3w", 1, 1, 3);
        light('^', "n5s", 1, 3, 0);
        light('^', "n5sz", 2, 3, 2);
        light('^', "n1w", 1, 1, 0);
        light('^', "n1w", 2, 1, 1);
        light('\\', "n3s", 1, 3, 1);
        light('\\', "n3r", 1, 2, 3);
        light('\\', "n5sw", 2, 4, 4);
        light('\\', "n2s", 1, 3, 0);
        light('^', "g5s", 1, 3, 2);
        light('\\', "g5s", 1, 3, 3);
        light('^', "m5sz", 2, 3, 5);
        light('^', "g5sz", 2, 3, 4);
        light('=', "m9ssz", 3, 6, 6);
        light('=', "n9ssz", 3, 6, 5);
        light('=', "h5s", 1, 4, 2);
        light('=', "h5s", 2, 6, 1);
        light('^', "h5s", 1, 4, 0);
        light('=', "u5s", 1, 2, 4);
        light('^', "u5s", 1, 2, 2);
        light('^', "o5s", 1, 3, 0);
    }

    /** One RUNNER alone, who has the SACK. */
    private static void laden(char sign, String runner, int steps, int yard, int breath) {
        PassedCarry p = Check.hillOf("y" + String.valueOf(sign).repeat(40) + runner);
        p.go(steps);
        check.tells(sign + runner + ": YARD", p, p.told(0, 0), yard);
        check.tells(sign + runner + ": BREATH", p, p.told(0, 1), breath);
        check.tells(sign + runner + ": with the SACK", p, p.told(0, 4), yard);
    }

    private static void breathWithSack() {
        laden('=', "n5s", 1, 3, 1);
        laden('=', "n5sz", 2, 3, 3);
        laden('=', "n5sw", 2, 4, 1);
        laden('=', "n5r", 1, 2, 3);
        laden('^', "n1w", 9, 0, 1);
        laden('/', "n1w", 1, 1, 0);
        laden('=', "o5s", 1, 3, 2);
        laden('^', "o5s", 1, 3, 0);
        laden('=', "u5s", 1, 2, 4);
        laden('^', "g5s", 1, 3, 1);
        laden('=', "h5s", 1, 4, 1);
        laden('\\', "n5s", 1, 3, 2);
    }

    private static void passingsByLaws() {
        PassedCarry p = Check.hillOf("y======== n9w n9z n9z h9s");
        p.go(1);
        sack(p, 0, 6);
        check.due("passed(0)", p.passed(0), 14);
        check.due("passed(3)", p.passed(3), 7);
        check.tells("the HARE had it ahead of its going", p, p.told(3, 4), 4);
        p.begin();
        p.law(1);
        p.go(1);
        sack(p, 1, 6);
        check.due("passed(3)", p.passed(3), 7);
        p.begin();
        p.law(2);
        p.go(1);
        sack(p, 0, 6);
        PassedCarry q = Check.hillOf("y^======= n9w n9z n9z h9s");
        q.law(2);
        q.go(1);
        sack(q, 0, 6);
        check.tells("the HARE had it not", q, q.told(3, 4), 0);
        q.begin();
        q.law(0);
        q.go(1);
        sack(q, 0, 6);
        check.tells("by LAW 0 it had", q, q.told(3, 4), 4);
        PassedCarry s = Check.hillOf("y\\======= n9w n9z");
        s.law(2);
        s.go(1);
        sack(s, 1, 1);
    }

    private static void doneKeepsTheSack() {
        PassedCarry p = Check.hillOf("y== n9s n9w");
        p.go(1);
        sack(p, 1, 1);
        check.tells("to the end, not over it", p, p.told(0, 4), 2);
        check.tells("and is there", p, p.told(0, 0), 2);
        for (int law = 0; law < 3; law++) {
            PassedCarry q = Check.hillOf("y=== n9w n9w n9r");
            q.law(law);
            q.head(0, 9);
            q.begin();
            q.go(60);
            sack(q, 0, 3);
            check.due("who is DONE is not passed", q.passed(2), 2);
            check.due("passed(1)", q.passed(1), 4);
        }
    }

    private static void headStarts() {
        PassedCarry p = Check.hillOf("y=== n9w n9w n9w");
        p.head(0, 3);
        p.head(2, 9);
        p.begin();
        told(p, 0, 3, 9, 0, 1, 0);
        told(p, 1, 0, 9, NONE, 3, 0);
        told(p, 2, 3, 9, 0, 2, 0);
        check.due("two are DONE", p.count(3), 2);
        p.head(1, 4);
        p.begin();
        check.due("over as it is begun", p.go(60), 0);
        check.due("pays()", p.pays(), 0);
        check.due("pays() by asked()", p.asked(), 0);
    }

    private static void sixtySteps() {
        PassedCarry p = Check.hillOf("y^ n1w");
        check.due("pays()", p.pays(), 0);
        check.due("pays() by asked()", p.asked(), 60);
        check.due("go(59)", p.go(59), 59);
        check.due("go(60)", p.go(60), 60);
        check.due("go(1)", p.go(1), 60);
        told(p, 0, 0, 1, NONE, 1, 0);
        PassedCarry q = Check.hillOf("y" + "=".repeat(40) + " n9zzwwwwww");
        check.due("the PLAN goes on by the STEP's number", q.go(10), 10);
        check.tells("YARDS", q, q.told(0, 0), 6);
        check.due("the last STEP", q.pays(), 0);
        check.due("pays() by asked()", q.asked(), 54);
    }

    private static void ranksAsTheyAre() {
        PassedCarry p = Check.hillOf("y====== n9z n9z n9r n9s");
        p.head(1, 2);
        p.begin();
        check.tells("farthest first", p, p.told(1, 3), 1);
        check.tells("then by numbers", p, p.told(0, 3), 2);
        check.tells("then by numbers", p, p.told(3, 3), 4);
        p.go(60);
        check.tells("the first one DONE", p, p.told(3, 3), 1);
        check.tells("the second one", p, p.told(2, 3), 2);
        check.tells("not DONE, but ahead", p, p.told(1, 3), 3);
        check.tells("not DONE, behind", p, p.told(0, 3), 4);
    }

    private static void carriedYards() {
        PassedCarry p = Check.hillOf("y====== n9r n9w");
        p.go(60);
        check.tells("went with it once", p, p.told(0, 4), 2);
        check.tells("all its way", p, p.told(1, 4), 6);
    }

    private static void keepAndOn() {
        PassedCarry p = Check.hillOf("y==== n9r n9w");
        p.go(1);
        check.due("keep(0)", p.keep(0), 1);
        p.head(0, 5);
        p.law(1);
        p.go(60);
        check.due("keep(2)", p.keep(2), 4);
        check.due("count(5)", p.count(5), 2);
        check.due("on(0)", p.on(0), 1);
        told(p, 0, 2, 7, NONE, 1, 2);
        told(p, 1, 1, 9, NONE, 2, 1);
        sack(p, 1, 1);
        check.due("passed(0)", p.passed(0), 2);
        check.due("the LAW is not kept", p.law(0), 1);
        check.tells("nor are HEAD STARTS", p, p.about(0, 2), 5);
        p.go(1);
        check.due("still kept", p.on(0), 1);
        p.begin();
        check.due("on(0) from a beginning", p.on(0), 1);
        sack(p, 1, 1);
        check.due("passed(0)", p.passed(0), 2);
        check.due("on(2)", p.on(2), 4);
        check.finds("on(1)", p, p.on(1), NOTHING);
        check.due("keep anew", p.keep(0), 4);
        check.due("count(5)", p.count(5), 2);
        check.due("keep(-1)", p.keep(-1), BAD);
        check.due("on(3)", p.on(3), BAD);
    }

    private static void paysRanksLaws() {
        PassedCarry p = Check.hillOf("y==== n9r n9w");
        check.due("pays()", p.pays(), 1);
        check.due("pays() by asked()", p.asked(), 4);
        check.due("ranks(5)", p.ranks(5), 0);
        check.row("ranks(5)", p, 5, 1, 2);
        check.due("it stays", p.count(2), 0);
        sack(p, 0, 0);
        PassedCarry u = Check.hillOf("y==== n9w n9r");
        check.due("ranks(4) at the end, not as they are", u.ranks(4), 1);
        check.row("ranks(4)", u, 4, 2, 1);
        PassedCarry q = Check.hillOf("y==== n9z n9r");
        check.due("pays(): who never goes", q.pays(), 0);
        check.due("pays() by asked()", q.asked(), 60);
        check.due("ranks(0)", q.ranks(0), 1);
        check.row("ranks(0)", q, 0, 2, 1);
        check.due("laws(0)", q.laws(0), 7);
        check.due("laws(1)", q.laws(1), 0);
        check.due("laws(2)", q.laws(2), BAD);
        PassedCarry s = Check.hillOf("y^ n9w n9z n9z");
        check.due("by LAW 0 who is passed last", s.laws(2), 1);
        check.due("by LAW 1 who is passed first", s.laws(1), 2);
        check.due("by LAW 2 who had it", s.laws(0), 4);
        s.law(2);
        check.due("by each, whichever LAW it is", s.laws(2), 1);
        check.due("the LAW stays", s.law(0), 2);
    }
}
