/** The edges of "2 A STEP ..": breath, passings, laws, the end of a race, ranks. */
public final class StepEdgesTest {
    private static final int NONE = Edges.NONE;
    private static final Edges edges = new Edges("StepEdgesTest");
    private static final Check check = edges.check;

    public static void main(String[] args) {
        atFirst();
        theEndOfTheRoad();
        whoGoes();
        plansGoRound();
        given();
        allTogether();
        costs();
        slopes();
        nextLesserPace();
        kinds();
        whoIsPassed();
        nearestFirst();
        laws();
        lawTwoByWhereOneGoesFrom();
        whoIsDoneKeepsIt();
        theEndOfARace();
        ranks();
        edges.end();
    }

    private static void is(PassedCarry p, int x, int what, int want) {
        check.tells("told(" + x + ", " + what + ")", p, p.told(x, what), want);
    }

    private static void sackIs(PassedCarry p, int who, int passings) {
        check.due("sack()", p.sack(), who);
        check.due("PASSINGS", p.asked(), passings);
    }

    private static void atFirst() {
        edges.sentence("At first all are at YARD 0 (but for a HEAD START: as many YARDS as told, 0 at first),"
            + " have their BREATH (which is the most that they can have), and RUNNER 0 has the SACK.");
        PassedCarry p = Check.hillOf("y===== n3w g9w");
        is(p, 0, 0, 0);
        is(p, 1, 0, 0);
        p.head(1, 4);
        p.begin();
        is(p, 0, 0, 0);
        is(p, 1, 0, 4);
        is(p, 0, 1, 3);
        is(p, 1, 1, 9);
        sackIs(p, 0, 0);
        // It came back to RUNNER 0, as at first, from another one.
        PassedCarry q = Check.hillOf("y==== n9w n9z");
        q.go(1);
        sackIs(q, 1, 1);
        q.begin();
        sackIs(q, 0, 0);
    }

    /** One RUNNER on a ROAD of flat YARDS, behind one STEP. */
    private static void endOf(int yards, int head, String runner, int yard, int doneIn) {
        PassedCarry p = Check.hillOf("y" + "=".repeat(yards) + runner);
        p.head(0, head);
        p.begin();
        p.go(1);
        is(p, 0, 0, yard);
        is(p, 0, 2, doneIn);
        check.due("how many are DONE", p.count(3), doneIn == NONE ? 0 : 1);
    }

    private static void theEndOfTheRoad() {
        edges.sentence("The end of the ROAD is behind its last YARD: at as many YARDS as there are;"
            + " who comes to it or over it is there and DONE.");
        endOf(4, 0, "n9s", 3, NONE);
        endOf(3, 0, "n9s", 3, 0);
        endOf(2, 0, "n9s", 2, 0);
        endOf(1, 0, "h9s", 1, 0);
        endOf(40, 0, "h9s", 4, NONE);
        endOf(9, 9, "n9z", 9, 0);
        endOf(8, 9, "n9z", 8, 0);
        endOf(1, 9, "n9z", 1, 0);
        endOf(10, 9, "n9z", 9, NONE);
        endOf(10, 9, "n9w", 10, 0);
    }

    private static void whoGoes() {
        edges.sentence("RUNNERS that are not DONE go one behind the other by their numbers");
        PassedCarry p = Check.hillOf("y= n9r n9z");
        p.go(1);
        is(p, 0, 1, 7);
        p.go(5);
        is(p, 0, 1, 7);
        is(p, 0, 0, 1);
        is(p, 0, 2, 0);
        is(p, 0, 4, 1);
        // RUNNER 1 has got the SACK in the same STEP, ahead of its own going.
        PassedCarry q = Check.hillOf("y======== n9r n9r");
        q.go(1);
        is(q, 0, 1, 7);
        is(q, 1, 1, 7);
        is(q, 1, 4, 2);
        PassedCarry s = Check.hillOf("y= n9z n9w");
        s.head(1, 1);
        s.begin();
        s.go(1);
        is(s, 1, 1, 9);
        check.due("who was DONE at first passes nobody", s.passed(1), 0);
    }

    /** One RUNNER (with the SACK) on 40 flat YARDS. */
    private static void yardBehind(String runner, int steps, int yard) {
        PassedCarry p = Check.hillOf("y" + "=".repeat(40) + runner);
        p.go(steps);
        check.tells(runner + " behind " + steps + " STEPS", p, p.told(0, 0), yard);
    }

    private static void plansGoRound() {
        edges.sentence("that of its PLAN (the STEP's number modulo how many it has)");
        yardBehind("n9w", 9, 9);
        yardBehind("n9zw", 1, 0);
        yardBehind("n9zw", 2, 1);
        yardBehind("n9zw", 3, 1);
        yardBehind("n9zw", 4, 2);
        yardBehind("n9wzzzzzzz", 8, 1);
        yardBehind("n9wzzzzzzz", 9, 2);
        yardBehind("n9zzzzzzzw", 7, 0);
        yardBehind("n9zzzzzzzw", 8, 1);
        // A RACE that is gone on from has the STEP's number, and so the PACE, as it was kept.
        PassedCarry p = Check.hillOf("y==== n9zw n9z");
        p.go(1);
        p.keep(0);
        p.begin();
        p.on(0);
        p.go(1);
        is(p, 0, 0, 1);
    }

    /** RUNNER 1, without the SACK, on YARDS of one sign: its YARD and BREATH behind some STEPS. */
    private static void light(char sign, String runner, int steps, int yard, int breath) {
        PassedCarry p = Check.hillOf("y" + String.valueOf(sign).repeat(40) + "n9z " + runner);
        p.go(steps);
        check.tells(sign + runner + ": YARD", p, p.told(1, 0), yard);
        check.tells(sign + runner + ": BREATH", p, p.told(1, 1), breath);
    }

    /** RUNNER 0, alone, with the SACK. */
    private static void laden(char sign, String runner, int steps, int yard, int breath) {
        PassedCarry p = Check.hillOf("y" + String.valueOf(sign).repeat(40) + runner);
        p.go(steps);
        check.tells(sign + runner + " with the SACK: YARD", p, p.told(0, 0), yard);
        check.tells(sign + runner + " with the SACK: BREATH", p, p.told(0, 1), breath);
    }

    private static void given() {
        edges.sentence("A PACE of 0 gives 2 BREATH, of 1 gives 1 (the most at most)");
        light('=', "n3sz", 2, 3, 2);
        light('=', "n3szz", 3, 3, 3);
        light('=', "n3sw", 2, 4, 1);
        light('=', "n3swww", 4, 6, 3);
        light('=', "n3swwww", 5, 7, 3);
        light('=', "n1z", 9, 0, 1);
        light('=', "n9w", 9, 9, 9);
        laden('=', "n9z", 1, 0, 9);
        laden('=', "n5sz", 2, 3, 3);
        laden('^', "n9z", 5, 0, 9);
        edges.sentence("(0 costs nothing)");
        laden('^', "n5sz", 2, 2, 3);
        laden('^', "n5wz", 2, 1, 5);
        light('^', "n5sz", 2, 3, 2);
    }

    private static void allTogether() {
        edges.sentence("(BREATH is then what it was, and given, less all costs together, the most at most.)");
        laden('=', "n9w", 1, 1, 9);
        laden('/', "n9w", 1, 1, 8);
        laden('^', "n9w", 1, 1, 7);
        light('/', "n9w", 1, 1, 9);
        light('^', "n9w", 1, 1, 8);
        laden('\\', "n9w", 1, 1, 9);
        laden('\\', "n9r", 1, 2, 8);
    }

    private static void costs() {
        edges.sentence("of 2 costs 1, of 3 costs 3");
        light('=', "n9r", 1, 2, 8);
        light('=', "n9s", 1, 3, 6);
        edges.sentence("and the SACK 1 more");
        laden('=', "n9r", 1, 2, 7);
        laden('=', "n9s", 1, 3, 5);
        laden('=', "n9zw", 2, 1, 9);
        laden('=', "n9sw", 2, 4, 5);
    }

    private static void slopes() {
        edges.sentence("for a PACE of 1 and more the SLOPE of the YARD at which one is, if it is above 0, costs as much more");
        light('/', "n9r", 1, 2, 7);
        light('^', "n9r", 1, 2, 6);
        light('^', "n9s", 1, 3, 4);
        PassedCarry p = Check.hillOf("y=^= n9z n9w");
        p.go(1);
        is(p, 1, 1, 9);
        p.go(1);
        is(p, 1, 1, 8);
        p.go(1);
        is(p, 1, 1, 9);
        edges.sentence("for one of 2 or 3 a SLOPE of -1 costs 1 less");
        light('\\', "n9r", 1, 2, 9);
        light('\\', "n9s", 1, 3, 7);
        light('\\', "n9sw", 2, 4, 8);
        light('\\', "n9sz", 2, 3, 9);
        light('\\', "n5ss", 2, 6, 1);
        laden('\\', "n9s", 1, 3, 6);
    }

    private static void nextLesserPace() {
        edges.sentence("If it came below 0, the next lesser PACE is taken, and so on");
        light('=', "n3s", 1, 3, 0);
        light('=', "n2s", 1, 2, 1);
        light('=', "n1s", 1, 2, 0);
        light('=', "n1r", 1, 2, 0);
        light('=', "n1rr", 2, 3, 1);
        light('=', "n1rs", 2, 3, 1);
        light('/', "n1s", 1, 1, 1);
        light('^', "n1s", 1, 1, 0);
        light('^', "n1s", 2, 1, 1);
        light('^', "n1w", 1, 1, 0);
        light('^', "n1w", 2, 1, 1);
        light('\\', "n2s", 1, 3, 0);
        light('\\', "n1s", 1, 2, 1);
        laden('=', "n4s", 1, 3, 0);
        laden('=', "n3s", 1, 2, 1);
        laden('=', "n1r", 1, 1, 1);
        laden('^', "n2w", 1, 1, 0);
        laden('^', "n2w", 2, 1, 2);
        laden('^', "n1s", 9, 0, 1);
    }

    private static void kinds() {
        edges.sentence("1 GOAT (a RUNNER: SLOPES cost nothing more)");
        light('^', "g9s", 1, 3, 6);
        laden('^', "g1w", 1, 1, 1);
        light('\\', "g9s", 1, 3, 7);
        edges.sentence("2 OX (a RUNNER: the SACK costs nothing more)");
        laden('=', "o3s", 1, 3, 0);
        laden('^', "o9s", 1, 3, 4);
        edges.sentence("3 HARE (a RUNNER: a PACE of 3 goes 4 YARDS)");
        light('=', "h3s", 1, 4, 0);
        light('=', "h2s", 1, 2, 1);
        light('=', "h9r", 1, 2, 8);
        edges.sentence("4 HILLMAN (a GOAT: a PACE of 0 gives 3)");
        light('^', "m9ssz", 3, 6, 6);
        light('=', "m4sz", 2, 3, 4);
        light('=', "m4w", 1, 1, 4);
        // With no BREATH left the SACK takes what a PACE of 1 gives, so a HILLMAN can always walk.
        laden('^', "m2rw", 2, 3, 0);
        laden('^', "m1w", 1, 1, 1);
        edges.sentence("5 MULE (an OX: a PACE of 3 is one of 2)");
        laden('=', "u9s", 1, 2, 8);
        laden('=', "u1ss", 2, 3, 1);
        light('/', "u9s", 1, 2, 7);
        light('\\', "u9s", 1, 2, 9);
    }

    /** RUNNER 0 goes by a PACE, RUNNER 1 rests ahead: is it passed? */
    private static void passes(String pace, int head, int headOfOther, int yards, int bits) {
        PassedCarry p = Check.hillOf("y" + "=".repeat(yards) + "n9" + pace + " n9z");
        p.head(0, head);
        p.head(1, headOfOther);
        p.begin();
        p.go(1);
        check.due("passed(0) from " + head + " by " + pace + ", other at " + headOfOther, p.passed(0), bits);
        sackIs(p, bits == 0 ? 0 : 1, bits == 0 ? 0 : 1);
    }

    private static void whoIsPassed() {
        edges.sentence("In going from YARD p to YARD q one PASSES all others that are not DONE"
            + " and are at p or ahead of it, but behind q");
        passes("r", 0, 0, 9, 2);
        passes("r", 0, 1, 9, 2);
        passes("r", 0, 2, 9, 0);
        passes("r", 0, 3, 9, 0);
        passes("r", 2, 1, 9, 0);
        passes("r", 2, 2, 9, 2);
        passes("z", 0, 0, 9, 0);
        passes("w", 0, 0, 9, 2);
        passes("w", 0, 1, 9, 0);
        passes("s", 0, 1, 2, 2);
        passes("s", 0, 2, 2, 0);
        passes("s", 0, 2, 3, 2);
        passes("w", 8, 8, 9, 2);
        passes("w", 9, 8, 9, 0);
    }

    private static int holderBy(int law, int headOfOne, int headOfTwo) {
        PassedCarry p = Check.hillOf("y====== n9s n9z n9z");
        p.law(law);
        p.head(1, headOfOne);
        p.head(2, headOfTwo);
        p.begin();
        p.go(1);
        check.due("passed(0)", p.passed(0), 6);
        return p.sack();
    }

    private static void nearestFirst() {
        edges.sentence("the nearest to p first (of alike ones the least number)");
        check.due("who is passed last has it: the farther one", holderBy(0, 2, 1), 1);
        check.due("who is passed last has it: the farther one", holderBy(0, 1, 2), 2);
        check.due("who is passed last has it: of alike ones the greater number", holderBy(0, 1, 1), 2);
        check.due("who is passed first keeps it: the nearer one", holderBy(1, 2, 1), 2);
        check.due("who is passed first keeps it: the nearer one", holderBy(1, 0, 1), 1);
        check.due("who is passed first keeps it: of alike ones the lesser number", holderBy(1, 1, 1), 1);
    }

    private static PassedCarry thirdPasses(String road, int law) {
        PassedCarry p = Check.hillOf("y" + road + "n9z n9z g9r");
        p.law(law);
        p.go(1);
        return p;
    }

    private static void laws() {
        edges.sentence("LAW 0: at each PASSING the SACK goes to who is PASSED, whoever had it.");
        sackIs(thirdPasses("=====", 0), 1, 2);
        sackIs(thirdPasses("^^^^^", 0), 1, 2);
        edges.sentence("LAW 1: it goes so only if who PASSES has it.");
        sackIs(thirdPasses("=====", 1), 0, 2);
        PassedCarry p = Check.hillOf("y===== n9r n9z n9z");
        p.law(1);
        p.go(1);
        sackIs(p, 1, 2);
        edges.sentence("LAW 2: as by LAW 0, but not in going from a YARD of SLOPE above 0.");
        sackIs(thirdPasses("=====", 2), 1, 2);
        sackIs(thirdPasses("/====", 2), 0, 2);
        sackIs(thirdPasses("^====", 2), 0, 2);
        sackIs(thirdPasses("\\====", 2), 1, 2);
        check.due("it PASSES all the same", thirdPasses("/====", 2).passed(2), 3);
    }

    private static void lawTwoByWhereOneGoesFrom() {
        edges.sentence("but not in going from a YARD of SLOPE above 0");
        PassedCarry p = Check.hillOf("y=^=== n9z n9z g9r");
        p.law(2);
        p.head(1, 1);
        p.begin();
        p.go(1);
        sackIs(p, 1, 2);
        PassedCarry q = Check.hillOf("y/==== n9z n9z g9r");
        q.law(2);
        q.head(1, 1);
        q.begin();
        q.go(1);
        sackIs(q, 0, 2);
    }

    private static void whoIsDoneKeepsIt() {
        edges.sentence("By any LAW who has it and is DONE keeps it.");
        for (int law = 0; law < 3; law++) {
            PassedCarry p = Check.hillOf("y=== n9w n9w n9r");
            p.law(law);
            p.head(0, 9);
            p.begin();
            p.go(60);
            sackIs(p, 0, 3);
            // In its last going one is not DONE yet: whoever it passes gets it.
            PassedCarry q = Check.hillOf("y= n9s n9z");
            q.law(law);
            q.go(1);
            sackIs(q, 1, 1);
            PassedCarry s = Check.hillOf("y== n9s n9z n9w n9w");
            s.law(law);
            s.head(1, 2);
            s.head(2, 2);
            s.head(3, 2);
            s.begin();
            s.go(60);
            sackIs(s, 0, 0);
        }
    }

    private static void endsIn(String hill, int steps, int doneIn) {
        PassedCarry p = Check.hillOf(hill);
        check.due("pays() in " + hill, p.pays(), 0);
        check.due("STEPS by pays() in " + hill, p.asked(), steps);
        check.due("go(60) in " + hill, p.go(60), steps);
        check.due("go(60) again in " + hill, p.go(60), steps);
        is(p, 0, 2, doneIn);
    }

    private static void theEndOfARace() {
        edges.sentence("A RACE ends when all are DONE, or behind STEP 60.");
        endsIn("y= n9w", 1, 0);
        endsIn("y== n9w", 2, 1);
        endsIn("y" + "=".repeat(40) + "n9wwz", 59, 58);
        endsIn("y" + "=".repeat(40) + "n9zww", 60, 59);
        endsIn("y" + "=".repeat(40) + "n9zwwzw", 60, NONE);
        endsIn("y= n9z", 60, NONE);
        // RUNNER 0 is DONE in STEP 0, but RUNNER 1 goes on.
        PassedCarry p = Check.hillOf("y=== n9s n9w");
        check.due("go(1)", p.go(1), 1);
        check.due("go(60)", p.go(60), 3);
        edges.sentence("Who has the SACK then PAYS.");
        edges.due("who is not DONE", () -> Check.hillOf("y= n9w n9z"), n -> n.pays(), 1, 60);
        edges.due("who is DONE", () -> Check.hillOf("y= n9w n9w"), n -> n.pays(), 1, 1);
        edges.due("one alone", () -> Check.hillOf("y= n9w"), n -> n.pays(), 0, 1);
    }

    private static void ranks() {
        edges.sentence("RANKS are by the STEP in which one was DONE, then by numbers (those not DONE behind all,"
            + " by YARDS, the farthest first, then by numbers): 1, 2, ..");
        PassedCarry p = Check.hillOf("y====== n9r n9z n9s n9r n9z");
        p.head(4, 5);
        p.begin();
        check.due("who is first", p.ranks(0), 2);
        check.row("DONE in STEPS 2, not, 1, 2, not", p, 0, 2, 5, 1, 3, 4);
        PassedCarry q = Check.hillOf("y==== n9z n9z n9z n9z");
        q.head(3, 4);
        q.head(1, 3);
        q.begin();
        check.due("who is first", q.ranks(0), 3);
        check.row("not DONE, by YARDS, then by numbers", q, 0, 3, 2, 4, 1);
        PassedCarry s = Check.hillOf("y== n9w n9r n9r");
        s.head(0, 1);
        s.begin();
        check.due("who is first", s.ranks(0), 0);
        check.row("all DONE in STEP 0: by numbers", s, 0, 1, 2, 3);
    }
}
