/** Promises 1 to 17: a new object, rows, texts, hills. */
public final class HillsTest {
    private static final int BAD = PassedCarry.BAD, STATE = PassedCarry.STATE, NONE = PassedCarry.NONE;
    private static final int NOTHING = 1, BEYOND = 2, UNLIKE = 3, NOUGHT = 4, SIZE = 5;
    private static final int LEAST = Integer.MIN_VALUE, MOST = Integer.MAX_VALUE;
    private static final Check check = new Check("HillsTest");

    public static void main(String[] args) {
        newObject();
        row();
        layAndAt();
        tear();
        copy();
        mean();
        text();
        put();
        faultAhead();
        faultInRunners();
        hill();
        road();
        about();
        pace();
        mark();
        head();
        law();
        check.end();
    }

    private static void newObject() {
        PassedCarry p = new PassedCarry();
        for (int what = 0; what < 8; what++) {
            check.due("count(" + what + ")", p.count(what), 0);
        }
        check.due("law(0) of a new one", p.law(0), 0);
        check.due("asked()", p.asked(), 0);
        check.fraction("new", p, 0, 1);
        check.due("finding()", p.finding(), 0);
        for (int f = 1; f <= 5; f++) {
            check.due("findings()", p.findings(f), 0);
        }
        for (int r = 0; r < 6; r++) {
            check.finds("at() of a new one", p, p.at(r, 0), NOTHING);
        }
        for (int t = 0; t < 4; t++) {
            check.finds("fault() of a new one", p, p.fault(t), NOTHING);
        }
        check.finds("road(0) of a new one", p, p.road(0), BEYOND);
    }

    private static void row() {
        PassedCarry p = new PassedCarry();
        check.due("row(0, 60)", p.row(0, 60), 60);
        check.due("row(5, 0)", p.row(5, 0), 0);
        check.due("row(0, 61)", p.row(0, 61), BAD);
        check.due("row(6, 1)", p.row(6, 1), BAD);
        check.due("row(-1, 1)", p.row(-1, 1), BAD);
        check.due("row(6, -1): BAD ahead of SIZE", p.row(6, -1), BAD);
        check.due("no FINDING yet", p.finding(), 0);
        check.finds("row(0, -1)", p, p.row(0, -1), SIZE);
        check.finds("row(1, LEAST)", p, p.row(1, LEAST), SIZE);
        check.due("refused rows are not there", p.count(6), 2);
        p.lay(0, 59, 7);
        check.finds("refused changes nothing", p, p.row(0, -3), SIZE);
        check.tells("at(0, 59)", p, p.at(0, 59), 7);
        p.row(0, 60);
        check.tells("a row anew is 0", p, p.at(0, 59), 0);
        p.row(0, 2);
        check.row("a shorter row anew", p, 0, 0, 0);
    }

    private static void layAndAt() {
        PassedCarry p = new PassedCarry();
        check.due("lay(6, 0, 0)", p.lay(6, 0, 0), BAD);
        check.due("at(-1, 0)", p.at(-1, 0), BAD);
        check.finds("lay(0, 0, 0)", p, p.lay(0, 0, 0), NOTHING);
        check.finds("at(0, 0)", p, p.at(0, 0), NOTHING);
        p.row(0, 2);
        check.tells("lay(0, 1, 5)", p, p.lay(0, 1, 5), 0);
        check.tells("lay(0, 1, LEAST)", p, p.lay(0, 1, LEAST), 5);
        check.tells("at(0, 1)", p, p.at(0, 1), LEAST);
        check.finds("lay(0, 2, 1)", p, p.lay(0, 2, 1), BEYOND);
        check.finds("lay(0, -1, 1)", p, p.lay(0, -1, 1), BEYOND);
        check.finds("at(0, 2)", p, p.at(0, 2), BEYOND);
        check.finds("at(0, LEAST)", p, p.at(0, LEAST), BEYOND);
        check.due("asked() stays when refused", p.asked(), LEAST);
    }

    private static void tear() {
        PassedCarry p = new PassedCarry();
        p.row(3, 4);
        check.due("tear(3)", p.tear(3), 1);
        check.finds("tear(3) again", p, p.tear(3), NOTHING);
        check.due("tear(6)", p.tear(6), BAD);
        check.due("tear(-1)", p.tear(-1), BAD);
        check.finds("at(3, 0)", p, p.at(3, 0), NOTHING);
        check.due("count(6)", p.count(6), 0);
    }

    private static void copy() {
        PassedCarry p = new PassedCarry();
        p.row(0, 5);
        for (int i = 0; i < 5; i++) {
            p.lay(0, i, i + 1);
        }
        check.due("copy to itself, ahead", p.copy(0, 0, 0, 1, 4), 1);
        check.row("copied", p, 0, 1, 1, 2, 3, 4);
        check.due("copy to itself, back", p.copy(0, 1, 0, 0, 4), 1);
        check.row("copied", p, 0, 1, 2, 3, 4, 4);
        p.row(1, 2);
        check.due("copy to another", p.copy(0, 2, 1, 0, 2), 1);
        check.row("copied", p, 1, 3, 4);
        check.due("none from the end on", p.copy(0, 5, 1, 2, 0), 1);
        check.finds("from behind the end", p, p.copy(0, 6, 1, 0, 0), BEYOND);
        check.finds("to behind the end", p, p.copy(0, 0, 1, 3, 0), BEYOND);
        check.finds("not so many in it", p, p.copy(1, 1, 0, 0, 2), BEYOND);
        check.finds("not so many in the other", p, p.copy(0, 0, 1, 0, 3), BEYOND);
        check.finds("from below 0", p, p.copy(0, -1, 1, 0, 1), BEYOND);
        check.finds("to below 0", p, p.copy(0, 0, 1, -1, 1), BEYOND);
        check.finds("as many as can be", p, p.copy(0, 1, 1, 1, MOST), BEYOND);
        check.finds("from as far as can be", p, p.copy(0, MOST, 1, MOST, 1), BEYOND);
        check.finds("missing one", p, p.copy(2, 0, 1, 0, 0), NOTHING);
        check.finds("missing other", p, p.copy(1, 0, 2, 0, 9), NOTHING);
        check.finds("SIZE ahead of NOTHING", p, p.copy(2, 0, 2, 0, -1), SIZE);
        check.due("BAD ahead of SIZE", p.copy(6, 0, 0, 0, -1), BAD);
        check.due("BAD other", p.copy(0, 0, -1, 0, 1), BAD);
        check.row("stays when refused", p, 1, 3, 4);
    }

    private static void mean() {
        PassedCarry p = new PassedCarry();
        check.due("mean(6)", p.mean(6), BAD);
        check.finds("mean(0)", p, p.mean(0), NOTHING);
        p.row(0, 0);
        check.finds("mean of none", p, p.mean(0), NOUGHT);
        p.row(0, 2);
        p.lay(0, 0, -3);
        check.tells("mean is cut", p, p.mean(0), -1);
        p.lay(0, 0, 3);
        check.tells("mean is cut", p, p.mean(0), 1);
        p.lay(0, 0, MOST);
        p.lay(0, 1, MOST);
        check.tells("mean of great ones", p, p.mean(0), MOST);
        p.lay(0, 0, LEAST);
        p.lay(0, 1, LEAST);
        check.tells("mean of small ones", p, p.mean(0), LEAST);
    }

    private static void text() {
        PassedCarry p = new PassedCarry();
        check.due("text(3, 100)", p.text(3, 100), 100);
        check.due("text(0, 101)", p.text(0, 101), BAD);
        check.due("text(4, 1)", p.text(4, 1), BAD);
        check.due("text(-1, -1)", p.text(-1, -1), BAD);
        check.finds("text(0, -1)", p, p.text(0, -1), SIZE);
        check.due("count(7)", p.count(7), 1);
        check.due("put() into blanks", p.put(3, 99, 0), 1032);
        p.text(3, 100);
        check.due("a text anew is blank", p.put(3, 99, 0), 1032);
        check.due("text(0, 0)", p.text(0, 0), 0);
        check.due("count(7)", p.count(7), 2);
    }

    private static void put() {
        PassedCarry p = new PassedCarry();
        check.due("put(4, 0, 0)", p.put(4, 0, 0), BAD);
        check.finds("put(0, 0, 0)", p, p.put(0, 0, 0), NOTHING);
        p.text(0, 2);
        check.finds("put(0, 2, 0)", p, p.put(0, 2, 0), BEYOND);
        check.finds("put(0, -1, 0)", p, p.put(0, -1, 0), BEYOND);
        check.due("put 300", p.put(0, 0, 300), 1032);
        check.due("300 is cut to 44", p.put(0, 0, 200), 1044);
        check.due("200 is cut to -56", p.put(0, 0, -1), 944);
        check.due("-1 stays", p.put(0, 0, LEAST), 999);
        check.due("the least int is cut to 0", p.put(0, 0, 0), 1000);
        check.due("put() does not tell by asked()", p.asked(), 0);
    }

    private static void faultAhead() {
        PassedCarry p = new PassedCarry();
        check.due("fault(4)", p.fault(4), BAD);
        check.due("fault(-1)", p.fault(-1), BAD);
        check.finds("fault(0)", p, p.fault(0), NOTHING);
        check.due("an empty text", Check.faultOf(""), 0);
        check.due("blanks alone", Check.faultOf("   "), 3);
        check.due("y alone", Check.faultOf(" y"), 2);
        check.due("y and a blank", Check.faultOf("y "), 1);
        check.due("no y", Check.faultOf("  n1w"), 2);
        check.due("a YARD", Check.faultOf("y="), NONE);
        check.due("all signs, blanks around", Check.faultOf("  y=/^\\   "), NONE);
        check.due("no such sign", Check.faultOf("y=-"), 2);
        check.due("a YARD behind a blank", Check.faultOf("y= ="), 3);
        check.due("a second y", Check.faultOf("y= y="), 3);
        check.due("40 YARDS", Check.faultOf("y" + "=".repeat(40)), NONE);
        check.due("40 YARDS and a RUNNER", Check.faultOf("y" + "=".repeat(40) + "n1w"), NONE);
        check.due("a 41st YARD", Check.faultOf("y" + "/".repeat(41)), 41);
        check.due("a letter above 127", Check.faultOf("y=" + (char) 249), 2);
    }

    private static void faultInRunners() {
        check.due("blanks between or none", Check.faultOf("y=n1wg2r  o3s h4z m5w u6r"), 22);
        check.due("five RUNNERS", Check.faultOf("y=n1wg2ro3sh4zm5w  "), NONE);
        check.due("a sixth RUNNER", Check.faultOf("y=n1wg2ro3sh4zm5wu"), 17);
        check.due("an end behind the letter", Check.faultOf("y=n"), 3);
        check.due("an end behind BREATH", Check.faultOf("y=n1"), 4);
        check.due("no BREATH of 0", Check.faultOf("y=n0w"), 3);
        check.due("a blank within", Check.faultOf("y=n 1w"), 3);
        check.due("a blank ahead of PACES", Check.faultOf("y=n1 w"), 4);
        check.due("two figures", Check.faultOf("y=n12w"), 4);
        check.due("a PACE that is none", Check.faultOf("y=n1wx"), 5);
        check.due("a PACE behind a blank", Check.faultOf("y=n1w w"), 6);
        check.due("eight PACES", Check.faultOf("y=n1zwrszwrs"), NONE);
        check.due("a ninth PACE", Check.faultOf("y=n1zwrszwrsz"), 12);
        check.due("a great letter", Check.faultOf("y=N1w"), 2);
    }

    private static void hill() {
        PassedCarry p = new PassedCarry();
        check.due("hill(4)", p.hill(4), BAD);
        check.finds("hill(0)", p, p.hill(0), NOTHING);
        Check.write(p, 1, "y=n");
        check.due("hill of a FAULT", p.hill(1), STATE);
        check.due("still no ROAD", p.begin(), STATE);
        Check.write(p, 0, " y==  ");
        check.due("a hill without RUNNERS", p.hill(0), 0);
        check.due("its YARDS", p.count(0), 2);
        check.due("begin()", p.begin(), 0);
        check.due("go(5): all of none are DONE", p.go(5), 0);
        Check.write(p, 2, "y==== n9r g4w");
        check.due("a hill", p.hill(2), 2);
        p.head(1, 3);
        p.law(2);
        p.begin();
        p.go(1);
        p.keep(2);
        check.due("hill of a FAULT", p.hill(1), STATE);
        check.due("stays: STEPS", p.count(2), 1);
        check.due("stays: kept", p.count(5), 1);
        check.tells("stays: HEAD START", p, p.about(1, 2), 3);
        check.due("a hill anew", p.hill(2), 2);
        check.tells("HEAD STARTS 0", p, p.about(1, 2), 0);
        check.tells("and a RACE is begun so", p, p.told(1, 0), 0);
        check.due("STEPS", p.count(2), 0);
        check.due("kept RACES go", p.count(5), 0);
        check.finds("on(2)", p, p.on(2), NOTHING);
        check.due("LAW 0", p.law(1), 0);
    }

    private static void road() {
        PassedCarry p = Check.hillOf("y=/^\\");
        check.tells("road(0)", p, p.road(0), 0);
        check.tells("road(1)", p, p.road(1), 1);
        check.tells("road(2)", p, p.road(2), 2);
        check.tells("road(3)", p, p.road(3), -1);
        check.finds("road(4)", p, p.road(4), BEYOND);
        check.finds("road(39)", p, p.road(39), BEYOND);
        check.due("road(40)", p.road(40), BAD);
        check.due("road(-1)", p.road(-1), BAD);
        check.due("asked() stays", p.asked(), -1);
    }

    private static void about() {
        PassedCarry p = Check.hillOf("y= n1w g2ww o3www h4r m9zwrszwrs");
        int[] kinds = {0, 1, 2, 3, 4};
        int[] breaths = {1, 2, 3, 4, 9};
        int[] sizes = {1, 2, 3, 1, 8};
        p.head(2, 9);
        for (int x = 0; x < 5; x++) {
            check.tells("about(" + x + ", 0)", p, p.about(x, 0), kinds[x]);
            check.tells("about(" + x + ", 1)", p, p.about(x, 1), breaths[x]);
            check.tells("about(" + x + ", 2)", p, p.about(x, 2), x == 2 ? 9 : 0);
            check.tells("about(" + x + ", 3)", p, p.about(x, 3), sizes[x]);
        }
        check.tells("a MULE", p = Check.hillOf("y=u9s"), p.about(0, 0), 5);
        check.due("about(1, 0)", p.about(1, 0), BAD);
        check.due("about(-1, 0)", p.about(-1, 0), BAD);
        check.due("about(0, 4)", p.about(0, 4), BAD);
        check.due("about(0, -1)", p.about(0, -1), BAD);
    }

    private static void pace() {
        PassedCarry p = Check.hillOf("y= n1w u9zwrs");
        for (int i = 0; i < 4; i++) {
            check.due("pace(1, " + i + ")", p.pace(1, i), i);
        }
        check.finds("pace(1, 4)", p, p.pace(1, 4), BEYOND);
        check.finds("pace(1, -1)", p, p.pace(1, -1), BEYOND);
        check.finds("pace(0, 1)", p, p.pace(0, 1), BEYOND);
        check.due("pace(2, 0)", p.pace(2, 0), BAD);
        check.due("pace(-1, 9)", p.pace(-1, 9), BAD);
        check.due("pace() does not tell by asked()", p.asked(), 0);
    }

    private static void mark() {
        PassedCarry p = Check.hillOf("y=/^\\^ g2zs o3zs h4zss m5zzs u6zsss");
        check.due("a GOAT", p.mark(0, 1), 3);
        check.due("an OX", p.mark(1, 2), 3);
        check.due("a HARE", p.mark(2, 3), 2);
        check.due("a HILLMAN", p.mark(3, 4), 2);
        check.due("a HILLMAN is a GOAT", p.mark(3, 1), 3);
        check.due("a MULE", p.mark(4, 5), 3);
        check.due("a MULE is an OX", p.mark(4, 2), 6);
        check.finds("a GOAT is no HILLMAN", p, p.mark(0, 4), UNLIKE);
        check.finds("an OX is no MULE", p, p.mark(1, 5), UNLIKE);
        check.finds("a HARE is no GOAT", p, p.mark(2, 1), UNLIKE);
        check.finds("a MULE is no HARE", p, p.mark(4, 3), UNLIKE);
        check.due("KIND 0", p.mark(0, 0), BAD);
        check.due("KIND 6", p.mark(0, 6), BAD);
        check.due("no RUNNER", p.mark(5, 1), BAD);
        check.due("findings(3)", p.findings(3), 4);
        PassedCarry s = Check.hillOf("y/=^ g1w");
        check.due("the first YARD and the last", s.mark(0, 1), 2);
        PassedCarry q = Check.hillOf("y= n1w");
        check.finds("a RUNNER is no GOAT", q, q.mark(0, 1), UNLIKE);
    }

    private static void head() {
        PassedCarry p = Check.hillOf("y==== n9w n9w");
        check.due("head(1, 9)", p.head(1, 9), 0);
        check.due("head(1, 0)", p.head(1, 0), 9);
        check.due("head(1, 2)", p.head(1, 2), 0);
        check.due("head(1, 10)", p.head(1, 10), BAD);
        check.due("head(1, -1)", p.head(1, -1), BAD);
        check.due("head(2, 0)", p.head(2, 0), BAD);
        check.tells("about(1, 2)", p, p.about(1, 2), 2);
        check.tells("the RACE that is begun stays", p, p.told(1, 0), 0);
        p.begin();
        check.tells("a RACE that is begun then", p, p.told(1, 0), 2);
        check.tells("and the other", p, p.told(0, 0), 0);
    }

    private static void law() {
        PassedCarry p = new PassedCarry();
        check.due("law(2)", p.law(2), 0);
        check.due("law(1)", p.law(1), 2);
        check.due("law(3)", p.law(3), BAD);
        check.due("law(-1)", p.law(-1), BAD);
        check.due("law(0)", p.law(0), 1);
        PassedCarry q = Check.hillOf("y==== n9w n9z n9r");
        q.law(1);
        q.go(1);
        check.due("at once: who is passed last does not get it", q.sack(), 1);
        q.begin();
        q.law(0);
        q.go(1);
        check.due("at once: the other LAW", q.sack(), 0);
    }
}
