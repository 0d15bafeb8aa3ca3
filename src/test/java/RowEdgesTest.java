/** The edges of "1 ROWS ..", of promises 1 to 9: rows and texts. */
public final class RowEdgesTest {
    private static final int NOTHING = Edges.NOTHING, BEYOND = Edges.BEYOND, NOUGHT = Edges.NOUGHT, SIZE = Edges.SIZE;
    private static final int LEAST = Edges.LEAST, MOST = Edges.MOST;
    private static final Edges edges = new Edges("RowEdgesTest");
    private static final Check check = edges.check;

    public static void main(String[] args) {
        rowsAndTexts();
        newObject();
        row();
        lay();
        at();
        tear();
        copyRefused();
        copyAtTheEdges();
        copyWithinOne();
        mean();
        text();
        put();
        putCut();
        edges.end();
    }

    private static void rowsAndTexts() {
        edges.sentence("ROWS 0 .. 5 are rows of 0 to 60 ints");
        PassedCarry p = new PassedCarry();
        for (int r = 0; r < 6; r++) {
            check.due("row(" + r + ", 60)", p.row(r, 60), 60);
            p.lay(r, 0, 100 + r);
            p.lay(r, 59, 200 + r);
        }
        check.due("all are there", p.count(6), 6);
        for (int r = 0; r < 6; r++) {
            check.tells("each has places of its own", p, p.at(r, 0), 100 + r);
            check.tells("each has a 60th place", p, p.at(r, 59), 200 + r);
            check.due("row(" + r + ", 0)", p.row(r, 0), 0);
        }
        check.due("empty ones are there, too", p.count(6), 6);
        edges.sentence("TEXTS 0 .. 3 rows of 0 to 100 bytes");
        PassedCarry q = new PassedCarry();
        for (int t = 0; t < 4; t++) {
            check.due("text(" + t + ", 100)", q.text(t, 100), 100);
            q.put(t, 0, 60 + t);
            q.put(t, 99, 70 + t);
        }
        check.due("all are there", q.count(7), 4);
        for (int t = 0; t < 4; t++) {
            check.due("each has bytes of its own", q.put(t, 0, 0), 1060 + t);
            check.due("each has a 100th byte", q.put(t, 99, 0), 1070 + t);
            check.due("text(" + t + ", 0)", q.text(t, 0), 0);
        }
        check.due("empty ones are there, too", q.count(7), 4);
        edges.sentence("or missing (at first)");
        for (int i = 0; i < 6; i++) {
            int r = i;
            edges.finds("at(" + r + ", 0) of a new one", PassedCarry::new, n -> n.at(r, 0), NOTHING);
        }
        for (int i = 0; i < 4; i++) {
            int t = i;
            edges.finds("fault(" + t + ") of a new one", PassedCarry::new, n -> n.fault(t), NOTHING);
        }
    }

    private static void newObject() {
        edges.sentence("No ROWS, TEXTS, ROAD, RUNNERS; LAW 0.");
        edges.due("count(6)", PassedCarry::new, p -> p.count(6), 0);
        edges.due("count(7)", PassedCarry::new, p -> p.count(7), 0);
        edges.due("count(0)", PassedCarry::new, p -> p.count(0), 0);
        edges.due("count(1)", PassedCarry::new, p -> p.count(1), 0);
        edges.due("law(1)", PassedCarry::new, p -> p.law(1), 0);
        edges.state("begin()", PassedCarry::new, p -> p.begin());
        edges.finds("road(0)", PassedCarry::new, p -> p.road(0), BEYOND);
        edges.bad("about(0, 0)", PassedCarry::new, p -> p.about(0, 0));
    }

    private static void row() {
        edges.sentence("A ROW is there with n ints 0: n. BAD: also n above 60; SIZE: below 0.");
        for (int wrong : new int[] {-1, 6, LEAST, MOST}) {
            edges.bad("row(" + wrong + ", 1)", Edges::underWay, p -> p.row(wrong, 1));
            edges.bad("row(" + wrong + ", -1)", Edges::underWay, p -> p.row(wrong, -1));
        }
        edges.bad("row(0, 61)", Edges::underWay, p -> p.row(0, 61));
        edges.bad("row(3, 61)", Edges::underWay, p -> p.row(3, 61));
        edges.bad("row(0, MOST)", Edges::underWay, p -> p.row(0, MOST));
        edges.finds("row(0, -1)", Edges::underWay, p -> p.row(0, -1), SIZE);
        edges.finds("row(3, -1)", Edges::underWay, p -> p.row(3, -1), SIZE);
        edges.finds("row(0, LEAST)", Edges::underWay, p -> p.row(0, LEAST), SIZE);
        edges.due("row(3, 60)", Edges::underWay, p -> p.row(3, 60), 60);
        edges.due("row(3, 0)", Edges::underWay, p -> p.row(3, 0), 0);
        PassedCarry p = Edges.underWay();
        p.row(4, 58);
        p.row(4, 60);
        check.tells("what was laid at place 59 is gone", p, p.at(4, 59), 0);
        p.lay(4, 1, 5);
        p.row(4, 2);
        check.row("a shorter one anew", p, 4, 0, 0);
        p.row(4, 0);
        check.row("an empty one anew", p, 4);
    }

    private static void lay() {
        edges.sentence("Place i of a ROW is v: what it was, told by asked(): 1. BAD; NOTHING; BEYOND.");
        for (int wrong : new int[] {-1, 6, LEAST, MOST}) {
            edges.bad("lay(" + wrong + ", 0, 1)", Edges::underWay, p -> p.lay(wrong, 0, 1));
        }
        edges.finds("lay(3, 0, 1)", Edges::underWay, p -> p.lay(3, 0, 1), NOTHING);
        edges.finds("lay(5, -1, 1): NOTHING ahead of BEYOND", Edges::underWay, p -> p.lay(5, -1, 1), NOTHING);
        for (int wrong : new int[] {-1, 3, 60, LEAST, MOST}) {
            edges.finds("lay(0, " + wrong + ", 1)", Edges::underWay, p -> p.lay(0, wrong, 1), BEYOND);
        }
        edges.finds("lay(2, 0, 1) of an empty one", Edges::underWay, p -> p.lay(2, 0, 1), BEYOND);
        edges.finds("lay(4, 60, 1)", Edges::underWay, p -> p.lay(4, 60, 1), BEYOND);
        edges.due("lay(0, 2, 9)", Edges::underWay, p -> p.lay(0, 2, 9), 1, 2);
        edges.due("lay(4, 59, 9)", Edges::underWay, p -> p.lay(4, 59, 9), 1, 77);
        PassedCarry p = Edges.underWay();
        p.lay(0, 0, LEAST);
        check.tells("the least int was there", p, p.lay(0, 0, MOST), LEAST);
        check.tells("the greatest is", p, p.at(0, 0), MOST);
        check.tells("the place behind stays", p, p.at(0, 1), 1);
    }

    private static void at() {
        edges.sentence("Place i of a ROW, told by asked(): 1. BAD; NOTHING; BEYOND.");
        for (int wrong : new int[] {-1, 6, LEAST, MOST}) {
            edges.bad("at(" + wrong + ", 0)", Edges::underWay, p -> p.at(wrong, 0));
        }
        edges.finds("at(3, 0)", Edges::underWay, p -> p.at(3, 0), NOTHING);
        edges.finds("at(5, 99): NOTHING ahead of BEYOND", Edges::underWay, p -> p.at(5, 99), NOTHING);
        for (int wrong : new int[] {-1, 3, 60, LEAST, MOST}) {
            edges.finds("at(0, " + wrong + ")", Edges::underWay, p -> p.at(0, wrong), BEYOND);
        }
        edges.finds("at(2, 0) of an empty one", Edges::underWay, p -> p.at(2, 0), BEYOND);
        edges.finds("at(4, 60)", Edges::underWay, p -> p.at(4, 60), BEYOND);
        edges.due("at(0, 0)", Edges::underWay, p -> p.at(0, 0), 1, 0);
        edges.due("at(0, 2)", Edges::underWay, p -> p.at(0, 2), 1, 2);
        edges.stays("at(0, 0)", Edges::underWay, p -> p.at(0, 0));
    }

    private static void tear() {
        edges.sentence("A ROW is missing: 1. BAD; NOTHING.");
        for (int wrong : new int[] {-1, 6, LEAST, MOST}) {
            edges.bad("tear(" + wrong + ")", Edges::underWay, p -> p.tear(wrong));
        }
        edges.finds("tear(3)", Edges::underWay, p -> p.tear(3), NOTHING);
        edges.finds("tear(5)", Edges::underWay, p -> p.tear(5), NOTHING);
        edges.due("tear(2) of an empty one", Edges::underWay, p -> p.tear(2), 1);
        PassedCarry p = Edges.underWay();
        check.due("tear(0)", p.tear(0), 1);
        check.finds("tear(0) again", p, p.tear(0), NOTHING);
        check.finds("at(0, 0)", p, p.at(0, 0), NOTHING);
        check.due("the others are there", p.count(6), 3);
        check.tells("the others stay", p, p.at(1, 0), 1);
    }

    private static void copyRefused() {
        edges.sentence("BAD; SIZE: n below 0; NOTHING: either; BEYOND: not so many there.");
        for (int wrong : new int[] {-1, 6, LEAST, MOST}) {
            edges.bad("copy from " + wrong, Edges::underWay, p -> p.copy(wrong, 0, 0, 0, 1));
            edges.bad("copy to " + wrong, Edges::underWay, p -> p.copy(0, 0, wrong, 0, 1));
            edges.bad("copy from " + wrong + ", n below 0", Edges::underWay, p -> p.copy(wrong, 0, 0, 0, -1));
            edges.bad("copy to " + wrong + ", from a missing one", Edges::underWay, p -> p.copy(3, 0, wrong, 0, 1));
        }
        edges.finds("n -1", Edges::underWay, p -> p.copy(0, 1, 1, 1, -1), SIZE);
        edges.finds("n LEAST", Edges::underWay, p -> p.copy(0, 0, 1, 0, LEAST), SIZE);
        edges.finds("n -1 of missing ones", Edges::underWay, p -> p.copy(3, 0, 5, 0, -1), SIZE);
        edges.finds("n -1 and places beyond", Edges::underWay, p -> p.copy(0, 9, 1, 9, -1), SIZE);
        edges.finds("the first is missing", Edges::underWay, p -> p.copy(3, 0, 0, 0, 1), NOTHING);
        edges.finds("the other is missing", Edges::underWay, p -> p.copy(0, 0, 3, 0, 1), NOTHING);
        edges.finds("both are missing", Edges::underWay, p -> p.copy(3, 0, 5, 0, 0), NOTHING);
        edges.finds("missing, and places beyond", Edges::underWay, p -> p.copy(0, 9, 3, 9, 9), NOTHING);
        edges.finds("not so many in the first", Edges::underWay, p -> p.copy(0, 1, 4, 0, 3), BEYOND);
        edges.finds("not so many in the other", Edges::underWay, p -> p.copy(4, 0, 0, 1, 3), BEYOND);
        edges.finds("from place -1", Edges::underWay, p -> p.copy(0, -1, 4, 0, 1), BEYOND);
        edges.finds("to place -1", Edges::underWay, p -> p.copy(4, 0, 0, -1, 1), BEYOND);
        edges.finds("from place LEAST", Edges::underWay, p -> p.copy(0, LEAST, 4, 0, 1), BEYOND);
        edges.finds("to place LEAST", Edges::underWay, p -> p.copy(4, 0, 0, LEAST, 1), BEYOND);
        edges.finds("from place MOST", Edges::underWay, p -> p.copy(0, MOST, 4, 0, 1), BEYOND);
        edges.finds("to place MOST", Edges::underWay, p -> p.copy(4, 0, 0, MOST, 1), BEYOND);
        edges.finds("n MOST", Edges::underWay, p -> p.copy(0, 0, 4, 0, MOST), BEYOND);
        edges.finds("n MOST from place 1", Edges::underWay, p -> p.copy(0, 1, 4, 1, MOST), BEYOND);
        edges.finds("both wrap around", Edges::underWay, p -> p.copy(0, MOST, 4, MOST, MOST), BEYOND);
        edges.finds("one of an empty one", Edges::underWay, p -> p.copy(2, 0, 4, 0, 1), BEYOND);
        edges.finds("61 places", Edges::underWay, p -> p.copy(4, 0, 4, 0, 61), BEYOND);
        edges.finds("none from place -1", Edges::underWay, p -> p.copy(0, -1, 4, 0, 0), BEYOND);
        edges.finds("none to behind the end", Edges::underWay, p -> p.copy(0, 0, 1, 4, 0), BEYOND);
    }

    private static void copyAtTheEdges() {
        edges.sentence("n places of a ROW, from one on, come to those of another one (perhaps itself) from one on");
        PassedCarry p = Edges.underWay();
        check.due("the last one to the last one", p.copy(4, 59, 0, 2, 1), 1);
        check.row("the last place", p, 0, 0, 1, 77);
        check.due("all of them", p.copy(0, 0, 1, 0, 3), 1);
        check.row("all places", p, 1, 0, 1, 77);
        check.row("where they came from", p, 0, 0, 1, 77);
        check.due("asked() is not told by it", p.copy(1, 0, 4, 57, 3), 1);
        check.tells("the last three of 60", p, p.at(4, 59), 77);
        check.tells("the last three of 60", p, p.at(4, 58), 1);
        edges.stays("n 0", Edges::underWay, n -> n.copy(0, 0, 1, 0, 0));
        edges.due("n 0", Edges::underWay, n -> n.copy(0, 0, 1, 0, 0), 1);
        edges.due("n 0 of an empty one", Edges::underWay, n -> n.copy(2, 0, 2, 0, 0), 1);
        edges.due("n 0 from the end to the end", Edges::underWay, n -> n.copy(0, 3, 1, 3, 0), 1);
        edges.due("all 60 to themselves", Edges::underWay, n -> n.copy(4, 0, 4, 0, 60), 1);
    }

    private static void copyWithinOne() {
        edges.sentence("(perhaps itself) from one on, as if taken ahead: 1.");
        PassedCarry p = new PassedCarry();
        Edges.order(p, 5, 1, 2, 3, 4, 5);
        check.due("onto the places behind", p.copy(5, 0, 5, 1, 4), 1);
        check.row("onto the places behind", p, 5, 1, 1, 2, 3, 4);
        check.due("onto the places ahead", p.copy(5, 1, 5, 0, 4), 1);
        check.row("onto the places ahead", p, 5, 1, 2, 3, 4, 4);
        check.due("two farther", p.copy(5, 0, 5, 2, 3), 1);
        check.row("two farther", p, 5, 1, 2, 1, 2, 3);
        check.due("onto itself", p.copy(5, 0, 5, 0, 5), 1);
        check.row("onto itself", p, 5, 1, 2, 1, 2, 3);
    }

    private static int meanOf(int... places) {
        PassedCarry p = new PassedCarry();
        Edges.order(p, 0, places);
        return p.mean(0) == 1 ? p.asked() : -77;
    }

    private static void mean() {
        edges.sentence("BAD; NOTHING; NOUGHT.");
        for (int wrong : new int[] {-1, 6, LEAST, MOST}) {
            edges.bad("mean(" + wrong + ")", Edges::underWay, p -> p.mean(wrong));
        }
        edges.finds("mean(3)", Edges::underWay, p -> p.mean(3), NOTHING);
        edges.finds("mean(2) of an empty one", Edges::underWay, p -> p.mean(2), NOUGHT);
        edges.sentence("The mean of a ROW's ints, cut, told by asked(): 1.");
        check.due("3 and 0", meanOf(3, 0), 1);
        check.due("-3 and 0", meanOf(-3, 0), -1);
        check.due("-1 and 0", meanOf(-1, 0), 0);
        check.due("2, 2, 1", meanOf(2, 2, 1), 1);
        check.due("-2, -2, -1", meanOf(-2, -2, -1), -1);
        check.due("one alone", meanOf(-7), -7);
        check.due("sums above the greatest int", meanOf(MOST, MOST, MOST), MOST);
        check.due("sums below the least int", meanOf(LEAST, LEAST, LEAST), LEAST);
        check.due("the least and the greatest", meanOf(LEAST, MOST), 0);
        edges.stays("mean(0)", Edges::underWay, p -> p.mean(0));
        edges.due("mean(4) of 60", Edges::underWay, p -> p.mean(4), 1, 1);
    }

    private static void text() {
        edges.sentence("A TEXT is there with n blanks: n. BAD: also n above 100; SIZE: below 0.");
        for (int wrong : new int[] {-1, 4, LEAST, MOST}) {
            edges.bad("text(" + wrong + ", 1)", Edges::underWay, p -> p.text(wrong, 1));
            edges.bad("text(" + wrong + ", -1)", Edges::underWay, p -> p.text(wrong, -1));
        }
        edges.bad("text(0, 101)", Edges::underWay, p -> p.text(0, 101));
        edges.bad("text(2, MOST)", Edges::underWay, p -> p.text(2, MOST));
        edges.finds("text(0, -1)", Edges::underWay, p -> p.text(0, -1), SIZE);
        edges.finds("text(2, -1)", Edges::underWay, p -> p.text(2, -1), SIZE);
        edges.finds("text(0, LEAST)", Edges::underWay, p -> p.text(0, LEAST), SIZE);
        edges.due("text(2, 100)", Edges::underWay, p -> p.text(2, 100), 100);
        edges.due("text(2, 61)", Edges::underWay, p -> p.text(2, 61), 61);
        edges.due("text(2, 0)", Edges::underWay, p -> p.text(2, 0), 0);
        PassedCarry p = Edges.underWay();
        p.text(1, 1);
        p.text(1, 3);
        for (int i = 0; i < 3; i++) {
            check.due("anew it is blank", p.put(1, i, 0), 1032);
        }
        check.finds("and ends there", p, p.put(1, 3, 0), BEYOND);
    }

    private static void put() {
        edges.sentence("what it was, and 1000 more. BAD; NOTHING; BEYOND.");
        for (int wrong : new int[] {-1, 4, LEAST, MOST}) {
            edges.bad("put(" + wrong + ", 0, 1)", Edges::underWay, p -> p.put(wrong, 0, 1));
        }
        edges.finds("put(2, 0, 1)", Edges::underWay, p -> p.put(2, 0, 1), NOTHING);
        edges.finds("put(2, -1, 1): NOTHING ahead of BEYOND", Edges::underWay, p -> p.put(2, -1, 1), NOTHING);
        for (int wrong : new int[] {-1, 3, 100, LEAST, MOST}) {
            edges.finds("put(1, " + wrong + ", 1)", Edges::underWay, p -> p.put(1, wrong, 1), BEYOND);
        }
        edges.finds("put(3, 0, 1) of an empty one", Edges::underWay, p -> p.put(3, 0, 1), BEYOND);
        edges.due("put(1, 0, 1)", Edges::underWay, p -> p.put(1, 0, 1), 1121, 77);
        edges.due("put(1, 2, 1)", Edges::underWay, p -> p.put(1, 2, 1), 1110, 77);
        PassedCarry p = new PassedCarry();
        p.text(0, 100);
        check.due("put(0, 99, 7)", p.put(0, 99, 7), 1032);
        check.due("put(0, 99, 7) again", p.put(0, 99, 7), 1007);
    }

    private static void putCut() {
        edges.sentence("Byte i of a TEXT is v, cut to a byte");
        int[] put = {0, 127, 128, 255, 256, 300, -1, -128, -129, -256, LEAST, MOST};
        int[] was = {0, 127, -128, -1, 0, 44, -1, -128, 127, 0, 0, -1};
        PassedCarry p = new PassedCarry();
        p.text(0, 1);
        for (int i = 0; i < put.length; i++) {
            p.put(0, 0, put[i]);
            check.due(put[i] + " was put", p.put(0, 0, 0), 1000 + was[i]);
        }
        p.text(0, 2);
        p.put(0, 0, 121 + 256);
        p.put(0, 1, 61 - 512);
        check.due("a y and a YARD are read of what is cut", p.fault(0), Edges.NONE);
    }
}
