/** Promises 39 to 45: what is told. */
public final class ToldTest {
    private static final int BAD = PassedCarry.BAD, NONE = PassedCarry.NONE, FINDING = PassedCarry.FINDING;
    private static final Check check = new Check("ToldTest");

    public static void main(String[] args) {
        constants();
        asked();
        fractions();
        count();
        findings();
        digestOfNone();
        digest();
        digestSeesChanges();
        refusedChangesNothing();
        check.end();
    }

    private static void constants() {
        check.due("BAD", PassedCarry.BAD, -1);
        check.due("FULL", PassedCarry.FULL, -2);
        check.due("FINDING", PassedCarry.FINDING, -3);
        check.due("STATE", PassedCarry.STATE, -4);
        check.due("SPENT", PassedCarry.SPENT, -6);
        check.due("NONE", PassedCarry.NONE, -9);
    }

    private static void asked() {
        PassedCarry p = Check.hillOf("y==== n9r n9w n9z");
        check.due("asked() before", p.asked(), 0);
        check.tells("about()", p, p.about(0, 1), 9);
        p.pace(0, 0);
        p.head(1, 0);
        p.law(0);
        p.begin();
        p.passed(0);
        p.laws(0);
        p.free(0, 1);
        p.start(0);
        p.fair(5);
        p.post(1, 4);
        p.could(4, 4, 1);
        p.odds(0);
        p.season(1, 1, 3);
        p.ranks(2);
        p.count(0);
        p.put(0, 0, 121);
        p.fault(0);
        p.keep(0);
        p.on(0);
        p.row(1, 1);
        p.copy(1, 0, 1, 0, 1);
        p.tear(1);
        p.digest();
        p.mark(0, 1);
        check.due("asked() is not changed by these", p.asked(), 9);
        p.at(5, 99);
        p.told(9, 9);
        p.best(0, 9);
        p.duel(0, 0, 1);
        p.worth(0, 0, 1);
        p.road(39);
        p.mean(1);
        check.due("asked() is not changed when refused", p.asked(), 9);
        p.hill(0);
        check.due("nor by hill()", p.asked(), 9);
        check.due("duel() with none to choose", p.duel(0, 1, 0), 1);
        check.due("tells NONE", p.asked(), NONE);
    }

    private static void fractions() {
        PassedCarry p = Check.hillOf("y^ n1w n9z");
        check.fraction("before", p, 0, 1);
        p.odds(0);
        check.fraction("odds(0)", p, 2, 3);
        p.odds(7);
        p.free(0, 9);
        p.best(0, 1);
        check.fraction("stays", p, 2, 3);
        p.free(1, 2);
        check.fraction("free(1, 2)", p, 1, 1);
        p.hill(0);
        check.fraction("stays by hill()", p, 1, 1);
    }

    private static void count() {
        PassedCarry p = Check.hillOf("y==== n9r g9s m9w u9z");
        p.text(2, 0);
        p.row(1, 0);
        p.row(5, 3);
        p.row(4, 3);
        p.tear(4);
        p.go(2);
        p.keep(1);
        int[] want = {4, 4, 2, 2, 2, 1, 2, 2};
        for (int what = 0; what < 8; what++) {
            check.due("count(" + what + ")", p.count(what), want[what]);
        }
        check.due("count(8)", p.count(8), BAD);
        check.due("count(-1)", p.count(-1), BAD);
    }

    private static void findings() {
        PassedCarry p = Check.hillOf("y= n1w");
        int[][] due = new int[6][1];
        p.at(0, 0);
        p.on(0);
        due[1][0] = 2;
        p.road(1);
        due[2][0] = 1;
        p.mark(0, 1);
        due[3][0] = 1;
        p.row(0, 0);
        p.mean(0);
        p.mean(0);
        p.mean(0);
        due[4][0] = 3;
        p.row(0, -1);
        due[5][0] = 1;
        for (int f = 1; f <= 5; f++) {
            check.due("findings(" + f + ")", p.findings(f), due[f][0]);
        }
        check.due("finding()", p.finding(), 5);
        p.about(9, 9);
        check.due("BAD is no FINDING", p.finding(), 5);
        p.tear(0);
        check.due("what goes well neither", p.finding(), 5);
        check.due("tear(0)", p.tear(0), FINDING);
        check.due("finding()", p.finding(), 1);
        check.due("findings(0)", p.findings(0), BAD);
        check.due("findings(6)", p.findings(6), BAD);
        check.due("findings(MOST)", p.findings(Integer.MAX_VALUE), BAD);
    }

    private static long fold(long h, long... values) {
        long all = h;
        for (long v : values) {
            all = 31 * all + v;
        }
        return all;
    }

    private static void digestOfNone() {
        long h = fold(17, 0, 0, 0, 0, 0, 0, 0, 0, 0, -1, 0, -1, -1, -1);
        h = fold(h, -1, -1, -1, -1, -1, -1, -1, -1, -1, -1);
        check.due("digest() of a new one", new PassedCarry().digest(), h);
    }

    private static void digest() {
        PassedCarry p = new PassedCarry();
        Check.write(p, 1, "y=/^\\ n9r g8w");
        p.put(1, 5, 32);
        p.hill(1);
        p.head(1, 6);
        p.law(2);
        p.go(1);
        p.keep(1);
        p.row(2, 2);
        p.lay(2, 1, -7);
        p.text(3, 2);
        p.put(3, 0, 255);
        long h = fold(17, 4, 2, 1, 0, 1, 1, 1, 2, 2, 0, 1, 2, -1);
        // RUNNER 0 went from flat ground to YARD 2 with the SACK, past RUNNER 1, who then got it.
        h = fold(h, 0, 9, 0, 1, 2, 2, 7, NONE, 1, 2, 2);
        h = fold(h, 1, 8, 6, 1, 1, 1, 8, NONE, 2, 1, 0);
        h = fold(h, 1, 1, -1, 1, -1);
        h = fold(h, -1, -1, 2, 0, -7, -1, -1, -1);
        h = fold(h, -1, 13, 'y', '=', '/', '^', '\\', ' ', 'n', '9', 'r', ' ', 'g', '8', 'w');
        h = fold(h, -1, 2, -1, 32);
        check.due("digest()", p.digest(), h);
        check.due("digest() again", p.digest(), h);
    }

    private static void digestSeesChanges() {
        PassedCarry p = Check.hillOf("y==== n9r n9w");
        long before = p.digest();
        p.pays();
        p.laws(0);
        p.best(0, 2);
        p.free(1, 2);
        p.duel(0, 1, 2);
        p.worth(0, 1, 1);
        p.start(1);
        p.odds(0);
        p.fault(0);
        p.mean(3);
        check.due("what stays", p.digest(), before);
        p.row(0, 1);
        check.due("a ROW tells", p.digest() == before ? 1 : 0, 0);
        p.tear(0);
        check.due("torn again", p.digest(), before);
        p.go(1);
        check.due("a STEP tells", p.digest() == before ? 1 : 0, 0);
        p.begin();
        check.due("begun again", p.digest(), before);
        p.law(1);
        check.due("the LAW tells", p.digest() == before ? 1 : 0, 0);
    }

    private static void refusedChangesNothing() {
        PassedCarry p = Check.hillOf("y==== n9r n9w n9w");
        p.text(1, 1);
        p.row(0, 3);
        p.go(1);
        long before = p.digest();
        p.row(0, 61);
        p.row(0, -1);
        p.text(1, -1);
        p.text(1, 101);
        p.hill(1);
        p.hill(2);
        p.post(9, 0);
        p.post(0, 0);
        p.fair(6);
        p.season(0, 1, 0);
        p.season(1, 0, 0);
        p.ranks(7);
        p.copy(0, 2, 0, 0, 2);
        p.head(0, 10);
        p.law(3);
        p.go(61);
        p.keep(3);
        p.on(1);
        check.due("what is refused changes nothing", p.digest(), before);
    }
}
