import java.nio.charset.StandardCharsets;

/** Counts answers that are not as due; the tests of the project share it. */
final class Check {
    private final String name;
    private String under = "";
    private int wrong = 0;
    private int asked = 0;

    Check(String name) {
        this.name = name;
    }

    /** What is tested from here on; told with each answer that is not as due. */
    void under(String words) {
        under = words.isEmpty() ? "" : " [" + words + "]";
    }

    void due(String call, long got, long want) {
        asked++;
        if (got != want) {
            wrong++;
            System.out.println(name + under + ": " + call + " answered " + got + ", due is " + want);
        }
    }

    /** A call that answers 1 and tells by asked(). */
    void tells(String call, PassedCarry p, long got, long want) {
        due(call, got, 1);
        due(call + " by asked()", p.asked(), want);
    }

    /** A call that is refused with a FINDING. */
    void finds(String call, PassedCarry p, long got, int which) {
        due(call, got, PassedCarry.FINDING);
        due(call + " by finding()", p.finding(), which);
    }

    void row(String call, PassedCarry p, int r, int... want) {
        for (int i = 0; i < want.length; i++) {
            tells(call + ", place " + i, p, p.at(r, i), want[i]);
        }
        due(call + ", behind its places", p.at(r, want.length), PassedCarry.FINDING);
    }

    void fraction(String call, PassedCarry p, long upper, long lower) {
        due(call + " by upper()", p.upper(), upper);
        due(call + " by lower()", p.lower(), lower);
    }

    void end() {
        System.out.println(name + ": " + asked + " answers, " + wrong + " not as due");
        if (wrong != 0) {
            System.exit(1);
        }
    }

    static int write(PassedCarry p, int t, String signs) {
        byte[] bytes = signs.getBytes(StandardCharsets.ISO_8859_1);
        int size = p.text(t, bytes.length);
        for (int i = 0; i < bytes.length; i++) {
            p.put(t, i, bytes[i]);
        }
        return size;
    }

    static PassedCarry hillOf(String signs) {
        PassedCarry p = new PassedCarry();
        write(p, 0, signs);
        int runners = p.hill(0);
        if (runners < 0) {
            throw new IllegalStateException("no hill: " + signs);
        }
        return p;
    }

    static int faultOf(String signs) {
        PassedCarry p = new PassedCarry();
        write(p, 3, signs);
        return p.fault(3);
    }
}
