import java.io.IOException;
import java.nio.file.Files;
import java.nio.file.Path;
import java.util.ArrayList;
import java.util.HashSet;
import java.util.List;
import java.util.Set;
import java.util.function.Supplier;
import java.util.function.ToIntFunction;

/**
 * What the tests of the edges share: the sentence of the document that is tested, states of an
 * object to set out from, and a look at all that a refused call must leave as it was.
 */
final class Edges {
    static final int BAD = PassedCarry.BAD, STATE = PassedCarry.STATE, NONE = PassedCarry.NONE;
    static final int FINDING = PassedCarry.FINDING;
    static final int NOTHING = 1, BEYOND = 2, UNLIKE = 3, NOUGHT = 4, SIZE = 5;
    static final int LEAST = Integer.MIN_VALUE, MOST = Integer.MAX_VALUE;

    final Check check;
    private final String document;
    private final Set<String> sentences = new HashSet<>();

    Edges(String name) {
        check = new Check(name);
        document = plain(readDocument());
    }

    private static String readDocument() {
        Path path = Path.of(System.getProperty("project.root", "."), "..", "shared", "DOC.md");
        try {
            return Files.readString(path);
        } catch (IOException e) {
            return "";
        }
    }

    private static String plain(String words) {
        return words.replaceAll("\\s+", " ");
    }

    /** What follows tests these words, which the document must have (if it can be read). */
    void sentence(String words) {
        sentences.add(words);
        check.under(words);
        if (!document.isEmpty() && !document.contains(plain(words))) {
            check.due("the document has: " + words, 0, 1);
        }
    }

    void end() {
        check.under("");
        System.out.println(sentences.size() + " sentences of the document");
        check.end();
    }

    /** All that there can be is there, and something of it is missing. */
    static PassedCarry underWay() {
        PassedCarry p = new PassedCarry();
        Check.write(p, 0, "y==/^\\=== n5wr g6rrz o4ws");
        Check.write(p, 1, "y=n");
        p.text(3, 0);
        p.hill(0);
        order(p, 0, 0, 1, 2);
        order(p, 1, 1, 0, 2);
        p.row(2, 0);
        p.row(4, 60);
        p.head(1, 2);
        p.law(1);
        p.begin();
        p.go(2);
        p.keep(0);
        p.go(1);
        p.keep(2);
        p.odds(2);
        p.at(3, 0);
        p.lay(4, 59, 77);
        p.at(4, 59);
        return p;
    }

    /** A ROAD of two YARDS, and no RUNNERS. */
    static PassedCarry lonely() {
        return Check.hillOf("y==");
    }

    static void order(PassedCarry p, int r, int... places) {
        p.row(r, places.length);
        for (int i = 0; i < places.length; i++) {
            p.lay(r, i, places[i]);
        }
    }

    private static List<Long> findings(PassedCarry p) {
        List<Long> all = new ArrayList<>();
        all.add((long) p.finding());
        for (int f = 1; f <= 5; f++) {
            all.add((long) p.findings(f));
        }
        return all;
    }

    /** All else that calls can see, kept RACES and how the RACE goes on, too (which changes p). */
    private static List<Long> traits(PassedCarry p) {
        List<Long> all = new ArrayList<>(List.of((long) p.asked(), p.upper(), p.lower(), p.digest()));
        for (int t = 0; t < 4; t++) {
            all.add((long) p.fault(t));
        }
        p.go(1);
        all.add(p.digest());
        p.go(60);
        all.add(p.digest());
        for (int k = 0; k < 3; k++) {
            all.add((long) p.on(k));
            all.add(p.digest());
        }
        p.begin();
        all.add(p.digest());
        return all;
    }

    private static List<Long> withOneMore(List<Long> findings, int which) {
        List<Long> more = new ArrayList<>(findings);
        more.set(0, (long) which);
        more.set(which, more.get(which) + 1);
        return more;
    }

    private void same(String what, List<Long> got, List<Long> want) {
        check.due(what + ": " + got + " was " + want, got.equals(want) ? 1 : 0, 1);
    }

    private void refused(String call, Supplier<PassedCarry> from, ToIntFunction<PassedCarry> how, int code, int which) {
        PassedCarry p = from.get();
        PassedCarry untouched = from.get();
        check.due(call, how.applyAsInt(p), code);
        List<Long> before = findings(untouched);
        same(call + ", findings()", findings(p), which == 0 ? before : withOneMore(before, which));
        same(call + " changed something", traits(p), traits(untouched));
    }

    void bad(String call, Supplier<PassedCarry> from, ToIntFunction<PassedCarry> how) {
        refused(call, from, how, BAD, 0);
    }

    void state(String call, Supplier<PassedCarry> from, ToIntFunction<PassedCarry> how) {
        refused(call, from, how, STATE, 0);
    }

    void finds(String call, Supplier<PassedCarry> from, ToIntFunction<PassedCarry> how, int which) {
        refused(call, from, how, FINDING, which);
    }

    /** An answer of NONE leaves all as it was, findings(), too. */
    void none(String call, Supplier<PassedCarry> from, ToIntFunction<PassedCarry> how) {
        refused(call, from, how, NONE, 0);
    }

    /** A call that is not refused, from a state of its own. */
    void due(String call, Supplier<PassedCarry> from, ToIntFunction<PassedCarry> how, int want) {
        check.due(call, how.applyAsInt(from.get()), want);
    }

    /** A call that is not refused, and what it then tells by asked(). */
    void due(String call, Supplier<PassedCarry> from, ToIntFunction<PassedCarry> how, int want, int asked) {
        PassedCarry p = from.get();
        check.due(call, how.applyAsInt(p), want);
        check.due(call + " by asked()", p.asked(), asked);
    }

    /** A call (or some) that leaves the HILL, the RACE, kept RACES, ROWS and TEXTS as they were. */
    void stays(String call, Supplier<PassedCarry> from, ToIntFunction<PassedCarry> how) {
        PassedCarry p = from.get();
        PassedCarry untouched = from.get();
        how.applyAsInt(p);
        List<Long> got = traits(p);
        List<Long> want = traits(untouched);
        same(call + " changed something", got.subList(3, got.size()), want.subList(3, want.size()));
    }
}
