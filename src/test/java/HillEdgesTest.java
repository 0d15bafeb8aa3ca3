/** The edges of promises 10 to 17: faults, hills, what is told of them, head starts, the law. */
public final class HillEdgesTest {
    private static final int NONE = Edges.NONE, NOTHING = Edges.NOTHING, BEYOND = Edges.BEYOND, UNLIKE = Edges.UNLIKE;
    private static final int LEAST = Edges.LEAST, MOST = Edges.MOST;
    private static final Edges edges = new Edges("HillEdgesTest");
    private static final Check check = edges.check;

    public static void main(String[] args) {
        fault();
        blanks();
        yards();
        runners();
        breath();
        paces();
        noneSuch();
        lacks();
        endsTooEarly();
        hillRefused();
        hillAnew();
        road();
        about();
        pace();
        markRefused();
        mark();
        head();
        law();
        edges.end();
    }

    private static void faultIs(String signs, int want) {
        check.due("fault of '" + signs + "'", Check.faultOf(signs), want);
    }

    private static void fault() {
        edges.sentence("A FAULT of a TEXT; NONE: there is none. BAD; NOTHING.");
        for (int wrong : new int[] {-1, 4, LEAST, MOST}) {
            edges.bad("fault(" + wrong + ")", Edges::underWay, p -> p.fault(wrong));
        }
        edges.finds("fault(2)", Edges::underWay, p -> p.fault(2), NOTHING);
        edges.none("fault(0)", Edges::underWay, p -> p.fault(0));
        edges.due("fault(1)", Edges::underWay, p -> p.fault(1), 3, 77);
        edges.stays("fault(1)", Edges::underWay, p -> p.fault(1));
        edges.due("fault(3) of an empty one", Edges::underWay, p -> p.fault(3), 0);
    }

    private static void blanks() {
        edges.sentence("blanks (32) ahead, between, behind as many as wanted, none within items.");
        faultIs(" ".repeat(30) + "y=" + " ".repeat(30) + "n1w" + " ".repeat(30), NONE);
        faultIs("y=n1wg1w", NONE);
        faultIs("y= n1w g1w ", NONE);
        faultIs("y =", 1);
        faultIs("y= =", 3);
        faultIs("y=n 1w", 3);
        faultIs("y=n1 w", 4);
        faultIs("y=n1w w", 6);
        faultIs("\ty=", 0);
        faultIs("y=\nn1w", 2);
        faultIs("y=n1w\0", 5);
    }

    private static void yards() {
        edges.sentence("signs, one for each YARD (1 to 40)");
        faultIs("y=", NONE);
        faultIs("y" + "=".repeat(40), NONE);
        edges.due("40 YARDS", () -> Check.hillOf("y" + "=".repeat(40)), p -> p.count(0), 40);
        edges.due("1 YARD", () -> Check.hillOf("y="), p -> p.count(0), 1);
        edges.sentence("a 41st YARD");
        faultIs("y" + "=".repeat(41), 41);
        faultIs("  y" + "^".repeat(45) + " n1w", 43);
        faultIs("y" + "=".repeat(40) + " =", 42);
        faultIs("y" + "=".repeat(40) + "x", 41);
    }

    private static final String FIVE = "n1w g2r o3s h4z m5w";

    private static void runners() {
        edges.sentence("RUNNERS (5 at most; 0, 1, .. as they come)");
        faultIs("y=" + FIVE, NONE);
        edges.due("5 RUNNERS", () -> Check.hillOf("y= " + FIVE), p -> p.count(1), 5);
        edges.due("no RUNNERS", () -> Check.hillOf("y= "), p -> p.count(1), 0);
        for (int x = 0; x < 5; x++) {
            int who = x;
            edges.due("KIND of " + x, () -> Check.hillOf("y= " + FIVE), p -> p.about(who, 0), 1, x);
            edges.due("BREATH of " + x, () -> Check.hillOf("y= " + FIVE), p -> p.about(who, 1), 1, x + 1);
        }
        edges.sentence("a sixth RUNNER: its place");
        faultIs("y=" + FIVE + " u6r", 22);
        faultIs("y=" + FIVE + "u6r", 21);
        faultIs("y=" + FIVE + "   u", 24);
        faultIs("y=" + FIVE + "   ", NONE);
    }

    private static void breath() {
        edges.sentence("BREATH (1 .. 9, one figure)");
        faultIs("y=n1w", NONE);
        faultIs("y=n9w", NONE);
        faultIs("y=n0w", 3);
        faultIs("y=n:w", 3);
        faultIs("y=n/w", 3);
        faultIs("y=n10w", 4);
        edges.due("BREATH 9", () -> Check.hillOf("y=n9w"), p -> p.about(0, 1), 1, 9);
        edges.due("BREATH 1", () -> Check.hillOf("y=n1w"), p -> p.about(0, 1), 1, 1);
    }

    private static void paces() {
        edges.sentence("a PLAN of 1 to 8 PACES");
        faultIs("y=n1z", NONE);
        faultIs("y=n1zwrszwrs", NONE);
        edges.due("8 PACES", () -> Check.hillOf("y=n1zwrszwrs"), p -> p.about(0, 3), 1, 8);
        edges.due("1 PACE", () -> Check.hillOf("y=n1z"), p -> p.about(0, 3), 1, 1);
        edges.sentence("a ninth PACE");
        faultIs("y=n1zwrszwrsw", 12);
        faultIs("y=n1zwrszwrs w", 13);
        faultIs("y=n1zwrszwrsn1w", NONE);
        edges.sentence("YARDS, PACES are as many as come one behind the other.");
        edges.due("YARDS", () -> Check.hillOf("y=/=n1wwg1w"), p -> p.count(0), 3);
        edges.due("PACES of 0", () -> Check.hillOf("y=/=n1wwg1w"), p -> p.about(0, 3), 1, 2);
        edges.due("PACES of 1", () -> Check.hillOf("y=/=n1wwg1w"), p -> p.about(1, 3), 1, 1);
    }

    /**
     * Each byte in turn at one place: by some it is a HILL, by some others the FAULT comes one
     * place later, by all the rest it is at that place.
     */
    private static void onlyThese(String ahead, String such, String later, String behind) {
        for (int b = -128; b < 128; b++) {
            PassedCarry p = new PassedCarry();
            Check.write(p, 0, ahead + " " + behind);
            p.put(0, ahead.length(), b);
            boolean fits = b > 0 && such.indexOf((char) b) >= 0;
            boolean goesOn = b > 0 && later.indexOf((char) b) >= 0;
            int want = fits ? NONE : goesOn ? ahead.length() + 1 : ahead.length();
            check.due("'" + ahead + "' byte " + b + " '" + behind + "'", p.fault(0), want);
        }
    }

    private static void noneSuch() {
        edges.sentence("a letter, a sign, a figure that is none such");
        onlyThese("", "y", " ", "=n1w");
        onlyThese("  ", "y", " ", "=n1w");
        onlyThese("y", "=/^\\", "", " n1w");
        onlyThese("y=", "=/^\\ ", "ngohmu", " n1w");
        onlyThese("y=", "ngohmu", "=/^\\ ", "1w");
        onlyThese("y= n1w ", "ngohmu", " ", "1w");
        onlyThese("y=n", "123456789", "", "w");
        onlyThese("y=n1", "zwrs", "", " ");
        onlyThese("y=n1w", "zwrs ", "ngohmu", "");
        onlyThese("y=", "=/^\\ ", "ngohmu", "");
    }

    private static void lacks() {
        edges.sentence("the first YARD, PACE that lacks: where it lacks");
        faultIs("y", 1);
        faultIs("y n1w", 1);
        faultIs("yn1w", 1);
        faultIs("  yy=", 3);
        faultIs("y=n1", 4);
        faultIs("y=n1 g1w", 4);
        faultIs("y=n1g1w", 4);
        faultIs("y=n1w g1 ", 8);
    }

    private static void endsTooEarly() {
        edges.sentence("the TEXT's size, if its end comes too early, or there is no y");
        faultIs("", 0);
        faultIs(" ", 1);
        faultIs(" ".repeat(100), 100);
        faultIs(" ".repeat(99) + "y", 100);
        faultIs("y=n", 3);
        faultIs("y=n1w g", 7);
        faultIs("y=n1w g9", 8);
        faultIs("y=" + " ".repeat(97) + "n", 100);
        faultIs("y=" + " ".repeat(95) + "n1w", NONE);
        faultIs("n1w", 0);
        faultIs(" =", 1);
    }

    private static void hillRefused() {
        edges.sentence("BAD; NOTHING; STATE: a FAULT. (STATE behind NOTHING.)");
        for (int wrong : new int[] {-1, 4, LEAST, MOST}) {
            edges.bad("hill(" + wrong + ")", Edges::underWay, p -> p.hill(wrong));
        }
        edges.finds("hill(2)", Edges::underWay, p -> p.hill(2), NOTHING);
        edges.finds("hill(0) of a new one", PassedCarry::new, p -> p.hill(0), NOTHING);
        edges.state("hill(1)", Edges::underWay, p -> p.hill(1));
        edges.state("hill(3) of an empty one", Edges::underWay, p -> p.hill(3));
        edges.state("hill(0) of a TEXT that was a HILL", () -> spoiled("y==/^\\=== n5wr g6rrz o4wsx"), p -> p.hill(2));
        edges.state("a FAULT behind RUNNERS and YARDS", () -> spoiled("y" + "/".repeat(40) + FIVE + "u"), p -> p.hill(2));
    }

    private static PassedCarry spoiled(String signs) {
        PassedCarry p = Edges.underWay();
        Check.write(p, 2, signs);
        return p;
    }

    private static void hillAnew() {
        edges.sentence("A HILL by a TEXT (anew; HEAD STARTS 0, LAW 0; a RACE is begun; kept RACES go): how many RUNNERS.");
        PassedCarry p = spoiled("y^ u2s");
        check.due("hill(2)", p.hill(2), 1);
        check.due("YARDS anew", p.count(0), 1);
        check.finds("no YARD is left over", p, p.road(1), BEYOND);
        check.tells("its SLOPE", p, p.road(0), 2);
        check.due("no RUNNER is left over", p.about(1, 0), Edges.BAD);
        check.finds("no PACE is left over", p, p.pace(0, 1), BEYOND);
        check.due("STEPS done", p.count(2), 0);
        check.due("kept RACES", p.count(5), 0);
        for (int k = 0; k < 3; k++) {
            check.finds("on(" + k + ")", p, p.on(k), NOTHING);
        }
        check.due("LAW", p.law(0), 0);
        check.due("ROWS stay", p.count(6), 4);
        check.due("TEXTS stay", p.count(7), 4);
        check.due("the same HILL again", p.hill(0), 3);
        check.tells("HEAD START of RUNNER 1", p, p.about(1, 2), 0);
        check.tells("YARD of RUNNER 1", p, p.told(1, 0), 0);
        PassedCarry q = Check.hillOf("y== n9w n9w");
        q.head(1, 2);
        q.put(0, 1, 47);
        check.tells("a TEXT that changes is no HILL yet", q, q.road(0), 0);
        check.due("hill(0)", q.hill(0), 2);
        check.tells("now it is", q, q.road(0), 1);
        check.due("nobody is DONE", q.count(3), 0);
        check.due("fewer RUNNERS than none can't be", spoiled("y=").hill(2), 0);
        PassedCarry s = Check.hillOf("y==== n9r n9w");
        check.due("a HEAD START is tried", s.start(1), 3);
        s.hill(0);
        check.tells("behind that all are at YARD 0", s, s.told(1, 0), 0);
    }

    private static void road() {
        edges.sentence("The SLOPE of a YARD, told by asked(): 1. BAD: not 0 .. 39; BEYOND: no such YARD.");
        for (int wrong : new int[] {-1, 40, 41, LEAST, MOST}) {
            edges.bad("road(" + wrong + ")", Edges::underWay, p -> p.road(wrong));
            edges.bad("road(" + wrong + ") of 40", () -> Check.hillOf("y" + "/".repeat(40)), p -> p.road(wrong));
        }
        edges.finds("road(8)", Edges::underWay, p -> p.road(8), BEYOND);
        edges.finds("road(39)", Edges::underWay, p -> p.road(39), BEYOND);
        edges.finds("road(39) of a new one", PassedCarry::new, p -> p.road(39), BEYOND);
        edges.due("road(0)", Edges::underWay, p -> p.road(0), 1, 0);
        edges.due("road(4)", Edges::underWay, p -> p.road(4), 1, -1);
        edges.due("road(7)", Edges::underWay, p -> p.road(7), 1, 0);
        edges.due("road(39) of 40", () -> Check.hillOf("y" + "/".repeat(40)), p -> p.road(39), 1, 1);
    }

    private static void about() {
        edges.sentence("0 its KIND, 1 the most BREATH, 2 HEAD START, 3 how many PACES its PLAN has, told by asked(): 1. BAD.");
        for (int wrong : new int[] {-1, 3, LEAST, MOST}) {
            edges.bad("about(" + wrong + ", 0)", Edges::underWay, p -> p.about(wrong, 0));
        }
        for (int wrong : new int[] {-1, 4, LEAST, MOST}) {
            edges.bad("about(0, " + wrong + ")", Edges::underWay, p -> p.about(0, wrong));
        }
        edges.bad("about(0, 0) without RUNNERS", Edges::lonely, p -> p.about(0, 0));
        int[] want = {2, 4, 0, 2};
        for (int i = 0; i < 4; i++) {
            int what = i;
            edges.due("about(2, " + i + ")", Edges::underWay, p -> p.about(2, what), 1, want[i]);
        }
        edges.due("about(1, 2)", Edges::underWay, p -> p.about(1, 2), 1, 2);
    }

    private static void pace() {
        edges.sentence("PACE i of a RUNNER's PLAN. BAD; BEYOND.");
        for (int wrong : new int[] {-1, 3, LEAST, MOST}) {
            edges.bad("pace(" + wrong + ", 0)", Edges::underWay, p -> p.pace(wrong, 0));
            edges.bad("pace(" + wrong + ", -1)", Edges::underWay, p -> p.pace(wrong, -1));
        }
        for (int wrong : new int[] {-1, 3, 8, LEAST, MOST}) {
            edges.finds("pace(1, " + wrong + ")", Edges::underWay, p -> p.pace(1, wrong), BEYOND);
        }
        edges.finds("pace(0, 8) of 8", () -> Check.hillOf("y=n1zwrszwrs"), p -> p.pace(0, 8), BEYOND);
        edges.due("pace(0, 7) of 8", () -> Check.hillOf("y=n1zwrszwrs"), p -> p.pace(0, 7), 3);
        edges.due("pace(1, 0)", Edges::underWay, p -> p.pace(1, 0), 2, 77);
        edges.due("pace(1, 2)", Edges::underWay, p -> p.pace(1, 2), 0);
        edges.due("a MULE's PACE of 3 is told as it stands there", () -> Check.hillOf("y=u1s"), p -> p.pace(0, 0), 3);
    }

    private static void markRefused() {
        edges.sentence("a MULE how many of 3. BAD: also KIND 0; UNLIKE.");
        for (int wrong : new int[] {-1, 3, LEAST, MOST}) {
            edges.bad("mark(" + wrong + ", 1)", Edges::underWay, p -> p.mark(wrong, 1));
        }
        for (int wrong : new int[] {0, -1, 6, LEAST, MOST}) {
            edges.bad("mark(1, " + wrong + ")", Edges::underWay, p -> p.mark(1, wrong));
            edges.bad("mark(0, " + wrong + ")", Edges::underWay, p -> p.mark(0, wrong));
        }
        edges.sentence("What a RUNNER that IS of a KIND tells");
        String letters = "ngohmu";
        for (int kind = 0; kind < 6; kind++) {
            String hill = "y/" + letters.charAt(kind) + "7zss";
            for (int w = 1; w < 6; w++) {
                int wanted = w;
                boolean is = kind == w || kind == 4 && w == 1 || kind == 5 && w == 2;
                if (!is) {
                    edges.finds(hill + " mark " + w, () -> Check.hillOf(hill), p -> p.mark(0, wanted), UNLIKE);
                }
            }
        }
    }

    private static void mark() {
        edges.sentence("a GOAT (HILLMAN, too) how many YARDS have a SLOPE above 0");
        edges.due("none", () -> Check.hillOf("y=\\= g1w"), p -> p.mark(0, 1), 0, 0);
        edges.due("all", () -> Check.hillOf("y^/ g1w"), p -> p.mark(0, 1), 2);
        edges.due("all 40", () -> Check.hillOf("y" + "/".repeat(40) + "m1w"), p -> p.mark(0, 1), 40);
        edges.sentence("an OX (MULE, too) the most BREATH");
        edges.due("an OX, gone on", Edges::underWay, p -> p.mark(2, 2), 4);
        edges.due("a MULE", () -> Check.hillOf("y= u9w"), p -> p.mark(0, 2), 9);
        edges.sentence("a HARE how many PACES of 3 its PLAN has");
        edges.due("none", () -> Check.hillOf("y= h1zwrzwrzw"), p -> p.mark(0, 3), 0);
        edges.due("all 8", () -> Check.hillOf("y= h1ssssssss"), p -> p.mark(0, 3), 8);
        edges.sentence("a HILLMAN how many of 0");
        edges.due("none", () -> Check.hillOf("y= m1swr"), p -> p.mark(0, 4), 0);
        edges.due("all 8", () -> Check.hillOf("y= m1zzzzzzzz"), p -> p.mark(0, 4), 8);
        edges.sentence("a MULE how many of 3.");
        edges.due("none", () -> Check.hillOf("y= u1zwr"), p -> p.mark(0, 5), 0);
        edges.due("the last one", () -> Check.hillOf("y= u1zwrs"), p -> p.mark(0, 5), 1);
        edges.stays("mark(1, 1)", Edges::underWay, p -> p.mark(1, 1));
    }

    private static void head() {
        edges.sentence("The HEAD START of a RUNNER is v (0 .. 9; of a RACE that is begun from then on): what it was. BAD.");
        for (int wrong : new int[] {-1, 3, LEAST, MOST}) {
            edges.bad("head(" + wrong + ", 1)", Edges::underWay, p -> p.head(wrong, 1));
        }
        for (int wrong : new int[] {-1, 10, LEAST, MOST}) {
            edges.bad("head(1, " + wrong + ")", Edges::underWay, p -> p.head(1, wrong));
        }
        edges.due("head(1, 0)", Edges::underWay, p -> p.head(1, 0), 2, 77);
        edges.due("head(1, 9)", Edges::underWay, p -> p.head(1, 9), 2);
        edges.due("head(1, 9), head(1, 1)", Edges::underWay, p -> p.head(1, 9) + 10 * p.head(1, 1), 92);
        PassedCarry p = Check.hillOf("y========== n9w n9w");
        p.head(0, 9);
        check.tells("the RACE that is begun stays", p, p.told(0, 0), 0);
        p.go(1);
        check.tells("and goes on so", p, p.told(0, 0), 1);
        p.begin();
        check.tells("a RACE that is begun then", p, p.told(0, 0), 9);
        check.tells("with nothing told of the way", p, p.told(0, 4), 0);
        check.tells("and the other", p, p.told(1, 0), 0);
    }

    private static void law() {
        edges.sentence("The LAW is v (0 .. 2; at once): what it was. BAD.");
        for (int wrong : new int[] {-1, 3, LEAST, MOST}) {
            edges.bad("law(" + wrong + ")", Edges::underWay, p -> p.law(wrong));
            edges.bad("law(" + wrong + ") of a new one", PassedCarry::new, p -> p.law(wrong));
        }
        edges.due("law(0)", Edges::underWay, p -> p.law(0), 1, 77);
        edges.due("law(2)", Edges::underWay, p -> p.law(2), 1);
        edges.due("law(2), law(2)", PassedCarry::new, p -> p.law(2) + 10 * p.law(2), 20);
        // RUNNER 0 passes both: by LAW 1 RUNNER 1 keeps what it gets, by LAW 0 RUNNER 2 has it.
        PassedCarry p = Check.hillOf("y==== n9w n9z n9z");
        p.law(1);
        p.go(1);
        check.due("by LAW 1", p.sack(), 1);
        PassedCarry q = Check.hillOf("y==== n9w n9z n9z");
        q.law(1);
        q.law(0);
        q.go(1);
        check.due("by LAW 0", q.sack(), 2);
    }
}
