/** The edges of promises 18 to 27: races, step by step, kept, gone on from. */
public final class RaceEdgesTest {
    private static final int NONE = Edges.NONE, NOTHING = Edges.NOTHING, LEAST = Edges.LEAST, MOST = Edges.MOST;
    private static final Edges edges = new Edges("RaceEdgesTest");
    private static final Check check = edges.check;

    public static void main(String[] args) {
        begin();
        goRefused();
        go();
        toldRefused();
        told();
        sack();
        passed();
        keep();
        keepNot();
        on();
        onAllAsItWas();
        pays();
        ranksRefused();
        ranks();
        laws();
        edges.end();
    }

    private static PassedCarry short4() {
        return Check.hillOf("y==== n9r n9w");
    }

    private static PassedCarry atItsEnd() {
        PassedCarry p = short4();
        p.go(60);
        return p;
    }

    private static void is(PassedCarry p, int x, int what, int want) {
        check.tells("told(" + x + ", " + what + ")", p, p.told(x, what), want);
    }

    private static void begin() {
        edges.sentence("A RACE is begun: how many RUNNERS. STATE: there is no ROAD.");
        edges.state("begin() of a new one", PassedCarry::new, p -> p.begin());
        edges.due("begin() without RUNNERS", Edges::lonely, p -> p.begin(), 0);
        edges.due("begin()", Edges::underWay, p -> p.begin(), 3, 77);
        PassedCarry q = new PassedCarry();
        Check.write(q, 0, "y=n1wx");
        q.hill(0);
        check.due("begin() behind a FAULT", q.begin(), Edges.STATE);
        PassedCarry p = atItsEnd();
        p.begin();
        int[] want = {0, 9, NONE, 1, 0};
        for (int what = 0; what < 5; what++) {
            is(p, 0, what, want[what]);
        }
        check.due("nobody has been PASSED", p.passed(0), 0);
        check.due("sack()", p.sack(), 0);
        check.due("no PASSINGS", p.asked(), 0);
        check.due("no STEPS", p.count(2), 0);
        check.due("nobody is DONE", p.count(3), 0);
        PassedCarry s = Edges.underWay();
        s.begin();
        check.due("kept RACES stay", s.count(5), 2);
        check.due("the LAW stays", s.law(0), 1);
        check.tells("HEAD STARTS stay", s, s.about(1, 2), 2);
    }

    private static void goRefused() {
        edges.sentence("STEPS done in all. BAD; STATE: no ROAD.");
        for (int wrong : new int[] {-1, 61, LEAST, MOST}) {
            edges.bad("go(" + wrong + ")", Edges::underWay, p -> p.go(wrong));
            edges.bad("go(" + wrong + ") of a new one", PassedCarry::new, p -> p.go(wrong));
        }
        edges.state("go(0) of a new one", PassedCarry::new, p -> p.go(0));
        edges.state("go(60) of a new one", PassedCarry::new, p -> p.go(60));
    }

    private static void go() {
        edges.sentence("n (0 .. 60) STEPS are done (none behind the RACE's end): STEPS done in all.");
        edges.due("go(0) at the beginning", RaceEdgesTest::short4, p -> p.go(0), 0, 0);
        edges.due("go(0)", Edges::underWay, p -> p.go(0), 3, 77);
        edges.stays("go(0)", Edges::underWay, p -> p.go(0));
        edges.due("go(1)", Edges::underWay, p -> p.go(1), 4);
        edges.due("go(60) of 60", () -> Check.hillOf("y= n9z"), p -> p.go(60), 60);
        edges.due("go(59), go(1)", () -> Check.hillOf("y= n9z"), p -> p.go(59) + p.go(1), 119);
        edges.due("go(59), go(60)", () -> Check.hillOf("y= n9z"), p -> p.go(59) + p.go(60), 119);
        edges.due("go(4) to the end", RaceEdgesTest::short4, p -> p.go(4), 4);
        edges.due("go(5) over the end", RaceEdgesTest::short4, p -> p.go(5), 4);
        edges.due("go(1) behind the end", RaceEdgesTest::atItsEnd, p -> p.go(1), 4);
        edges.stays("go(60) behind the end", RaceEdgesTest::atItsEnd, p -> p.go(60));
        edges.due("go(60) without RUNNERS", Edges::lonely, p -> p.go(60), 0);
        PassedCarry p = short4();
        PassedCarry q = short4();
        p.go(3);
        q.go(1);
        q.go(1);
        q.go(1);
        check.due("one by one or at once", p.digest() == q.digest() ? 1 : 0, 1);
    }

    private static void toldRefused() {
        edges.sentence("to the end, not over it), told by asked(): 1. BAD.");
        for (int wrong : new int[] {-1, 3, LEAST, MOST}) {
            edges.bad("told(" + wrong + ", 0)", Edges::underWay, p -> p.told(wrong, 0));
        }
        for (int wrong : new int[] {-1, 5, LEAST, MOST}) {
            edges.bad("told(0, " + wrong + ")", Edges::underWay, p -> p.told(0, wrong));
        }
        edges.bad("told(0, 0) of a new one", PassedCarry::new, p -> p.told(0, 0));
        edges.bad("told(0, 0) without RUNNERS", Edges::lonely, p -> p.told(0, 0));
        edges.stays("told(0, 4)", Edges::underWay, p -> p.told(0, 4));
    }

    private static void told() {
        edges.sentence("0 its YARD (DONE: how many YARDS there are)");
        edges.due("over the end", () -> gone("y== n9s", 1), p -> p.told(0, 0), 1, 2);
        edges.due("one YARD ahead of it", () -> gone("y==== n9s", 1), p -> p.told(0, 0), 1, 3);
        edges.sentence("2 the STEP in which it was DONE (0 the first; NONE)");
        edges.due("in the first STEP", () -> gone("y== n9s", 1), p -> p.told(0, 2), 1, 0);
        edges.due("in the second STEP", () -> gone("y== n9w", 2), p -> p.told(0, 2), 1, 1);
        edges.due("not yet", () -> gone("y== n9w", 1), p -> p.told(0, 2), 1, NONE);
        edges.due("never", () -> gone("y== n9z", 60), p -> p.told(0, 2), 1, NONE);
        edges.sentence("3 its RANK as it is");
        edges.due("at the beginning", RaceEdgesTest::short4, p -> p.told(1, 3), 1, 2);
        edges.due("who is one YARD behind now", () -> gone("y==== n9wz n9z", 1), p -> p.told(1, 3), 1, 2);
        edges.due("who is one YARD ahead, with a greater number", () -> gone("y==== n9z n9wz", 1), p -> p.told(1, 3), 1, 1);
        edges.due("who is one YARD behind, with a lesser number", () -> gone("y==== n9z n9wz", 1), p -> p.told(0, 3), 1, 2);
        edges.due("who is ahead now, if not at the end", () -> gone("y==== n9wz n9z", 1), p -> p.told(0, 3), 1, 1);
        edges.sentence("4 how many YARDS it went with the SACK (having it ahead of each going; to the end, not over it)");
        edges.due("to the end", () -> gone("y== n9s", 1), p -> p.told(0, 4), 1, 2);
        edges.due("a going at whose end it has it no more", () -> gone("y==== n9r n9z", 1), p -> p.told(0, 4), 1, 2);
        edges.due("and none behind that", () -> gone("y==== n9r n9z", 2), p -> p.told(0, 4), 1, 2);
        edges.due("who has got it and rests", () -> gone("y==== n9r n9z", 2), p -> p.told(1, 4), 1, 0);
        edges.due("who has got it ahead of its going", () -> gone("y==== n9r n9w", 1), p -> p.told(1, 4), 1, 1);
        edges.due("who gets it by its going is another", () -> gone("y==== n9z n9w", 1), p -> p.told(1, 4), 1, 0);
    }

    private static PassedCarry gone(String hill, int steps) {
        PassedCarry p = Check.hillOf(hill);
        p.go(steps);
        return p;
    }

    private static void sack() {
        edges.sentence("Who has the SACK; how many PASSINGS there were by asked(). STATE: no RUNNERS.");
        edges.state("sack() of a new one", PassedCarry::new, p -> p.sack());
        edges.state("sack() without RUNNERS", Edges::lonely, p -> p.sack());
        edges.due("at the beginning", RaceEdgesTest::short4, p -> p.sack(), 0, 0);
        edges.due("behind a PASSING", () -> gone("y==== n9r n9w", 1), p -> p.sack(), 1, 1);
        edges.due("behind the end", RaceEdgesTest::atItsEnd, p -> p.sack(), 1, 1);
        edges.stays("sack()", Edges::underWay, p -> p.sack());
        // To YARDS 1 and 3, then 4 and 4: RUNNER 0 passes, RUNNER 1 does, RUNNER 0 does again.
        edges.due("each PASSING", () -> gone("y====== n9ws n9sw", 2), p -> p.sack(), 1, 3);
    }

    private static void passed() {
        edges.sentence("Who has been PASSED by a RUNNER in the RACE (bits). BAD.");
        for (int wrong : new int[] {-1, 3, LEAST, MOST}) {
            edges.bad("passed(" + wrong + ")", Edges::underWay, p -> p.passed(wrong));
        }
        edges.bad("passed(0) of a new one", PassedCarry::new, p -> p.passed(0));
        edges.bad("passed(0) without RUNNERS", Edges::lonely, p -> p.passed(0));
        edges.due("at the beginning", RaceEdgesTest::short4, p -> p.passed(0), 0, 0);
        edges.due("all of five", () -> gone("y==== n9z n9z n9z n9z n9w", 1), p -> p.passed(4), 15);
        edges.due("all of five but itself", () -> gone("y==== n9w n9z n9z n9z n9z", 1), p -> p.passed(0), 30);
        edges.due("still behind the end", RaceEdgesTest::atItsEnd, p -> p.passed(0), 2);
    }

    private static void keep() {
        edges.sentence("STEPS done. BAD; STATE: no ROAD.");
        for (int wrong : new int[] {-1, 3, LEAST, MOST}) {
            edges.bad("keep(" + wrong + ")", Edges::underWay, p -> p.keep(wrong));
            edges.bad("keep(" + wrong + ") of a new one", PassedCarry::new, p -> p.keep(wrong));
        }
        for (int k = 0; k < 3; k++) {
            int place = k;
            edges.state("keep(" + k + ") of a new one", PassedCarry::new, p -> p.keep(place));
            edges.due("keep(" + k + ")", Edges::underWay, p -> p.keep(place), 3, 77);
            edges.due("keep(" + k + ") without RUNNERS", Edges::lonely, p -> p.keep(place), 0);
        }
        PassedCarry p = short4();
        check.due("keep(0) at the beginning", p.keep(0), 0);
        check.due("one is kept", p.count(5), 1);
        p.go(1);
        check.due("keep(0) anew", p.keep(0), 1);
        check.due("still one", p.count(5), 1);
        p.keep(1);
        p.keep(2);
        check.due("three", p.count(5), 3);
        p.go(60);
        check.due("what is kept does not go on", p.on(0), 1);
        is(p, 0, 0, 2);
        is(p, 1, 1, 9);
        is(p, 0, 4, 2);
        check.due("passed(0)", p.passed(0), 2);
    }

    private static void keepNot() {
        edges.sentence("The RACE is kept in a place (0 .. 2; HEAD STARTS, the LAW not)");
        PassedCarry p = short4();
        p.head(0, 1);
        p.law(2);
        p.keep(1);
        p.head(0, 7);
        p.law(1);
        p.on(1);
        check.tells("HEAD START as told last", p, p.about(0, 2), 7);
        check.due("LAW as told last", p.law(0), 1);
        is(p, 0, 0, 0);
    }

    private static void on() {
        edges.sentence("The RACE is as it was kept in a place: STEPS done. BAD; NOTHING.");
        for (int wrong : new int[] {-1, 3, LEAST, MOST}) {
            edges.bad("on(" + wrong + ")", Edges::underWay, p -> p.on(wrong));
            edges.bad("on(" + wrong + ") of a new one", PassedCarry::new, p -> p.on(wrong));
        }
        edges.finds("on(1)", Edges::underWay, p -> p.on(1), NOTHING);
        for (int k = 0; k < 3; k++) {
            int place = k;
            edges.finds("on(" + k + ") of a new one", PassedCarry::new, p -> p.on(place), NOTHING);
        }
        edges.due("on(0)", Edges::underWay, p -> p.on(0), 2, 77);
        edges.due("on(2)", Edges::underWay, p -> p.on(2), 3);
        edges.due("on(0), then on(2)", Edges::underWay, p -> 10 * p.on(0) + p.on(2), 23);
        PassedCarry p = short4();
        p.go(1);
        long digest = p.digest();
        p.keep(0);
        p.go(60);
        check.due("on(0)", p.on(0), 1);
        p.go(60);
        check.due("it is still kept", p.on(0), 1);
        p.begin();
        check.due("also from a beginning", p.on(0), 1);
        p.hill(0);
        p.go(1);
        check.due("all as it was", p.digest() == digest ? 1 : 0, 1);
    }

    private static void onAllAsItWas() {
        edges.sentence("The RACE is as it was kept in a place");
        for (int steps = 0; steps <= 5; steps++) {
            PassedCarry p = gone("y====/=\\==^= n9ws n9sw g5rz", steps);
            p.keep(1);
            long kept = p.digest();
            check.due("it goes on from STEP " + steps, p.go(60) > steps ? 1 : 0, 1);
            p.on(1);
            check.due("as it was behind STEP " + steps, p.digest(), kept);
            p.begin();
            p.on(1);
            check.due("as it was behind STEP " + steps + ", from a beginning", p.digest(), kept);
        }
        // At the beginning nobody went or passed; behind two STEPS there were 3 PASSINGS.
        PassedCarry q = Check.hillOf("y====== n9ws n9sw");
        q.keep(0);
        q.go(2);
        q.keep(2);
        q.on(0);
        check.due("sack()", q.sack(), 0);
        check.due("no PASSINGS", q.asked(), 0);
        check.due("passed(0)", q.passed(0), 0);
        is(q, 0, 4, 0);
        q.on(2);
        check.due("sack() behind two STEPS", q.sack(), 1);
        check.due("PASSINGS behind two STEPS", q.asked(), 3);
        check.due("passed(0) behind two STEPS", q.passed(0), 2);
        check.due("passed(1) behind two STEPS", q.passed(1), 1);
        is(q, 0, 4, 4);
        is(q, 1, 4, 4);
    }

    private static void pays() {
        edges.sentence("Who PAYS, if the RACE goes on as it is to its end (it stays); how many STEPS it has then by asked()."
            + " STATE: no RUNNERS.");
        edges.state("pays() of a new one", PassedCarry::new, p -> p.pays());
        edges.state("pays() without RUNNERS", Edges::lonely, p -> p.pays());
        edges.due("at the beginning", RaceEdgesTest::short4, p -> p.pays(), 1, 4);
        edges.due("behind the end", RaceEdgesTest::atItsEnd, p -> p.pays(), 1, 4);
        edges.due("never DONE", () -> gone("y== n9z", 7), p -> p.pays(), 0, 60);
        edges.due("behind STEP 60", () -> gone("y== n9z", 60), p -> p.pays(), 0, 60);
        edges.stays("pays()", Edges::underWay, p -> p.pays());
        PassedCarry p = Check.hillOf("y^ n9w n9z n9z");
        check.due("by LAW 0", p.pays(), 2);
        p.law(1);
        check.due("by LAW 1", p.pays(), 1);
        p.law(2);
        check.due("by LAW 2", p.pays(), 0);
    }

    private static void ranksRefused() {
        edges.sentence("come to a ROW (anew): who is first. BAD; STATE.");
        for (int wrong : new int[] {-1, 6, LEAST, MOST}) {
            edges.bad("ranks(" + wrong + ")", Edges::underWay, p -> p.ranks(wrong));
            edges.bad("ranks(" + wrong + ") of a new one", PassedCarry::new, p -> p.ranks(wrong));
        }
        edges.state("ranks(0) of a new one", PassedCarry::new, p -> p.ranks(0));
        edges.state("ranks(0) without RUNNERS", Edges::lonely, p -> p.ranks(0));
    }

    private static void ranks() {
        edges.sentence("RANKS of all RUNNERS at its end so come to a ROW (anew)");
        for (int r = 0; r < 6; r++) {
            PassedCarry p = Edges.underWay();
            check.due("ranks(" + r + ")", p.ranks(r), 1);
            check.row("ranks(" + r + ")", p, r, 3, 1, 2);
            check.due("ROWS", p.count(6), r == 3 || r == 5 ? 5 : 4);
            check.due("the RACE stays", p.count(2), 3);
        }
        edges.due("ranks() tells nothing by asked()", Edges::underWay, p -> p.ranks(0), 1, 77);
        PassedCarry q = atItsEnd();
        check.due("behind the end", q.ranks(3), 0);
        check.row("behind the end", q, 3, 1, 2);
        PassedCarry s = Check.hillOf("y= n9z");
        check.due("one alone", s.ranks(0), 0);
        check.row("one alone", s, 0, 1);
    }

    private static void laws() {
        edges.sentence("By which LAWS (bits 0 .. 2) a RUNNER PAYS at its end so (by each from now on). BAD.");
        for (int wrong : new int[] {-1, 3, LEAST, MOST}) {
            edges.bad("laws(" + wrong + ")", Edges::underWay, p -> p.laws(wrong));
        }
        edges.bad("laws(0) of a new one", PassedCarry::new, p -> p.laws(0));
        edges.bad("laws(0) without RUNNERS", Edges::lonely, p -> p.laws(0));
        edges.due("behind the end: by all", RaceEdgesTest::atItsEnd, p -> p.laws(1), 7, 0);
        edges.due("behind the end: by none", RaceEdgesTest::atItsEnd, p -> p.laws(0), 0);
        edges.due("by LAW 0", () -> Check.hillOf("y^ n9w n9z n9z"), p -> p.laws(2), 1);
        edges.due("by LAW 1", () -> Check.hillOf("y^ n9w n9z n9z"), p -> p.laws(1), 2);
        edges.due("by LAW 2", () -> Check.hillOf("y^ n9w n9z n9z"), p -> p.laws(0), 4);
        edges.stays("laws(0)", Edges::underWay, p -> p.laws(0));
        // What was done by another LAW stays done.
        PassedCarry p = Check.hillOf("y^ n9w n9z n9z");
        p.law(2);
        p.go(1);
        check.due("from now on nobody PASSES", p.laws(0), 7);
    }
}
