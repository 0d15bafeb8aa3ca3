/** Promises 33 to 38: head starts, posts, lots, by hand. */
public final class LotsTest {
    private static final int BAD = PassedCarry.BAD, STATE = PassedCarry.STATE, NONE = PassedCarry.NONE;
    private static final int NOTHING = 1, BEYOND = 2, UNLIKE = 3, SIZE = 5;
    private static final Check check = new Check("LotsTest");

    public static void main(String[] args) {
        refused();
        start();
        fair();
        post();
        couldBeRefused();
        could();
        odds();
        season();
        check.end();
    }

    private static void refused() {
        PassedCarry p = Check.hillOf("y==");
        check.due("start(0)", p.start(0), BAD);
        check.due("fair(6)", p.fair(6), BAD);
        check.due("fair(-1)", p.fair(-1), BAD);
        check.due("fair(0)", p.fair(0), STATE);
        check.due("odds(0)", p.odds(0), BAD);
        check.due("season(0, 1, 0)", p.season(0, 1, 0), BAD);
        check.due("season(41, 1, 0)", p.season(41, 1, 0), BAD);
        check.due("season(1, 0, 0)", p.season(1, 0, 0), BAD);
        check.due("season(1, -5, 0)", p.season(1, -5, 0), BAD);
        check.due("season(1, 2147483647, 0)", p.season(1, 2147483647, 0), BAD);
        check.due("season(1, 1, 6)", p.season(1, 1, 6), BAD);
        check.due("season(1, 1, 0)", p.season(1, 1, 0), STATE);
        check.due("no ROW came", p.count(6), 0);
        check.due("post(2, 0) without RUNNERS", p.post(2, 0), 0);
        check.due("its ROW is there", p.row(0, 0), 0);
        PassedCarry q = new PassedCarry();
        check.due("post(0, 0)", q.post(0, 0), BAD);
        check.due("post(41, 0)", q.post(41, 0), BAD);
        check.due("post(1, -1)", q.post(1, -1), BAD);
        check.due("post(40, 0)", q.post(40, 0), STATE);
    }

    private static void start() {
        PassedCarry p = Check.hillOf("y==== n9r n9w");
        check.due("start(0)", p.start(0), 0);
        check.due("start(1)", p.start(1), 3);
        check.due("start(2)", p.start(2), BAD);
        check.due("start(-1)", p.start(-1), BAD);
        p.go(60);
        check.due("from a RACE's beginning", p.start(1), 3);
        check.due("the RACE stays", p.count(2), 4);
        p.head(1, 3);
        check.due("others as told", p.start(0), 2);
        check.tells("HEAD STARTS stay", p, p.about(0, 2), 0);
        PassedCarry q = Check.hillOf("y= n9w");
        check.due("alone one always PAYS", q.start(0), NONE);
        PassedCarry u = Check.hillOf("y========= n9w n9z");
        check.due("only who is DONE at once does not PAY", u.start(1), 9);
        // By LAW 2 nothing moves on the slope, so RUNNER 0 PAYS with any HEAD START.
        PassedCarry s = Check.hillOf("y" + "/".repeat(20) + " m9w n9z");
        check.due("by LAW 0", s.start(0), 0);
        s.law(2);
        check.due("by LAW 2", s.start(0), NONE);
    }

    private static void fair() {
        PassedCarry p = Check.hillOf("y==== n9r n9w");
        p.head(0, 7);
        p.row(2, 60);
        check.due("fair(2)", p.fair(2), 0);
        check.row("fair(2)", p, 2, 0, 2);
        check.tells("HEAD STARTS stay", p, p.about(0, 2), 7);
        check.due("the RACE stays", p.count(2), 0);
        PassedCarry q = Check.hillOf("y" + "=".repeat(9) + " n9z n9w");
        check.due("one is never DONE: 60 less the latest", q.fair(0), 52);
        check.row("fair(0)", q, 0, 0, 0);
        PassedCarry s = Check.hillOf("y===== n9z n9z n9z");
        check.due("nobody is DONE", s.fair(0), 0);
        check.row("fair(0)", s, 0, 0, 0, 0);
        PassedCarry u = Check.hillOf("y==== h9s n9z");
        check.due("as far apart as can be", u.fair(0), 60);
        check.row("fair(0)", u, 0, 0, 0);
        PassedCarry t = Check.hillOf("y=== n9z n9r");
        check.due("DONE by its HEAD START is DONE in STEP 0", t.fair(0), 0);
        check.row("fair(0)", t, 0, 3, 1);
    }

    private static void post() {
        PassedCarry p = Check.hillOf("y==== n9r n9w");
        check.due("post(1, 0)", p.post(1, 0), 2);
        check.row("post(1, 0)", p, 0, 0, 1);
        check.finds("post(5, 0)", p, p.post(5, 0), BEYOND);
        check.row("stays when refused", p, 0, 0, 1);
        p.head(1, 2);
        check.due("post(2, 0): a HEAD START to it", p.post(2, 0), 2);
        check.row("post(2, 0)", p, 0, 1, 0);
        check.due("post(3, 0): RUNNER 1 in STEP 0", p.post(3, 0), 2);
        check.row("post(3, 0)", p, 0, 1, 0);
        check.due("post(4, 0): both in STEP 1, as they go", p.post(4, 0), 2);
        check.row("post(4, 0)", p, 0, 0, 1);
        check.due("the RACE stays", p.count(2), 0);
        PassedCarry q = Check.hillOf("y==== n9z n9w n9z n9r");
        p = q;
        q.head(2, 4);
        check.due("those who do not, not", q.post(2, 5), 3);
        check.row("post(2, 5)", p, 5, 2, 3, 1);
        q.head(0, 2);
        check.due("HEAD STARTS by numbers", q.post(2, 5), 4);
        check.row("post(2, 5)", p, 5, 0, 2, 3, 1);
    }

    private static PassedCarry orders(int[] first, int[] later) {
        PassedCarry p = Check.hillOf("y= n9w n9w n9w n9w");
        p.row(0, first.length);
        for (int i = 0; i < first.length; i++) {
            p.lay(0, i, first[i]);
        }
        p.row(1, later.length);
        for (int i = 0; i < later.length; i++) {
            p.lay(1, i, later[i]);
        }
        return p;
    }

    private static void couldBeRefused() {
        PassedCarry p = orders(new int[] {0, 1}, new int[] {1, 0, 2});
        check.due("could(6, 0, 0)", p.could(6, 0, 0), BAD);
        check.due("could(0, -1, 0)", p.could(0, -1, 0), BAD);
        check.due("a set of RUNNERS that there are not", p.could(0, 0, 16), BAD);
        check.due("a set below 0", p.could(0, 0, -1), BAD);
        check.due("BAD ahead of NOTHING", p.could(2, 0, 16), BAD);
        check.finds("the first is missing", p, p.could(2, 0, 0), NOTHING);
        check.finds("the later is missing", p, p.could(0, 2, 0), NOTHING);
        check.finds("not as many", p, p.could(0, 1, 0), SIZE);
        unlike("no RUNNER", new int[] {0, 4}, new int[] {4, 0});
        unlike("below 0", new int[] {0, -1}, new int[] {0, -1});
        unlike("far from a RUNNER", new int[] {0, 33}, new int[] {33, 0});
        unlike("twice at the first", new int[] {0, 0}, new int[] {0, 1});
        unlike("twice at the later", new int[] {0, 1}, new int[] {1, 1});
        unlike("twice at both", new int[] {2, 2}, new int[] {2, 2});
        unlike("not the same ones", new int[] {0, 1}, new int[] {0, 2});
        unlike("more than there can be", new int[] {0, 1, 2, 3, 0, 1}, new int[] {0, 1, 2, 3, 0, 1});
    }

    private static void unlike(String why, int[] first, int[] later) {
        PassedCarry p = orders(first, later);
        check.finds(why, p, p.could(0, 1, 1), UNLIKE);
    }

    private static void could(int want, int set, int[] first, int[] later) {
        check.due("could()", orders(first, later).could(0, 1, set), want);
    }

    private static void could() {
        could(9, 9, new int[] {0, 1, 2, 3}, new int[] {0, 1, 2, 3});
        could(0, 0, new int[] {2, 1}, new int[] {2, 1});
        could(15, 15, new int[] {}, new int[] {});
        could(1, 8, new int[] {0, 1}, new int[] {1, 0});
        could(7, 8, new int[] {0, 1, 2, 3}, new int[] {3, 0, 1, 2});
        could(1, 8, new int[] {0, 1, 2, 3}, new int[] {1, 2, 3, 0});
        could(5, 1, new int[] {0, 1, 2, 3}, new int[] {1, 0, 3, 2});
        could(12, 0, new int[] {3, 2, 1}, new int[] {1, 2, 3});
        PassedCarry p = orders(new int[] {1, 0}, new int[] {0, 1});
        check.due("a ROW and itself", p.could(0, 0, 6), 6);
        check.due("the other way", p.could(1, 0, 4), 1);
    }

    private static void odds() {
        PassedCarry p = Check.hillOf("y= n9w");
        check.due("odds(0) alone", p.odds(0), 3);
        check.fraction("odds(0)", p, 1, 1);
        check.due("odds(1)", p.odds(1), BAD);
        check.due("odds(-1)", p.odds(-1), BAD);
        // With the SACK it takes 2 BREATH to go up; 1 less than 1 is 1.
        PassedCarry q = Check.hillOf("y^ n1w n9z");
        check.due("odds(0)", q.odds(0), 6);
        check.fraction("odds(0)", q, 2, 3);
        check.due("odds(1)", q.odds(1), 3);
        check.fraction("odds(1)", q, 1, 3);
        PassedCarry s = Check.hillOf("y^ n1w n9z n9z");
        check.due("RUNNER 2 is passed last", s.odds(1), 0);
        check.fraction("odds(1)", s, 0, 1);
        check.due("odds(2)", s.odds(2), 9);
        s.law(1);
        check.due("by LAW 1 RUNNER 1 gets it", s.odds(1), 9);
        s.head(0, 1);
        check.due("by a HEAD START RUNNER 0 keeps it", s.odds(0), 27);
        check.fraction("odds(0)", s, 1, 1);
        check.tells("the most BREATH stays", s, s.about(0, 1), 1);
        // With 3 BREATH or 4 RUNNER 1 is DONE at once, with 2 the HARE comes to pass it.
        PassedCarry u = Check.hillOf("y=== h9zs n3s");
        check.due("odds(1)", u.odds(1), 3);
        check.fraction("odds(1)", u, 1, 3);
        check.due("odds(0)", u.odds(0), 6);
        // 3 BREATH to go up by 2 and the SACK, and 1 given: 2 are enough; 1 of 3 is too few.
        PassedCarry t = Check.hillOf("y^ n2w n9z");
        check.due("odds(0)", t.odds(0), 3);
        check.fraction("odds(0)", t, 1, 3);
    }

    /** Numbers by the seed 1 modulo 3: 1, 0, 0, 1, 1, 2, 2, .. */
    private static void season() {
        PassedCarry p = Check.hillOf("y^ n1w n9z");
        check.due("season(3, 1, 0)", p.season(3, 1, 0), 0);
        check.row("season(3, 1, 0)", p, 0, 3, 0);
        check.due("season(4, 1, 0)", p.season(4, 1, 0), 0);
        check.row("season(4, 1, 0)", p, 0, 3, 1);
        check.due("the RACE stays", p.count(2), 0);
        PassedCarry q = Check.hillOf("y= n9w n9w");
        check.due("season(40, 2147483646, 3)", q.season(40, 2147483646, 3), 1);
        check.row("season(40, 2147483646, 3)", q, 3, 0, 40);
        // RUNNER 0 has 2 BREATH, then 1: it goes up in the first RACE, and PAYS in the second.
        PassedCarry s = Check.hillOf("y^ n2w n9z");
        check.due("as often: the first", s.season(2, 1, 1), 0);
        check.row("season(2, 1, 1)", s, 1, 1, 1);
    }
}
