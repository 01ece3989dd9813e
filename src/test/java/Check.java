import java.util.NoSuchElementException;

/** Counts wrong answers, and tells TAPEs to a LanternHall as text. */
final class Check {
    private static int wrong = 0;
    private static int made = 0;

    private Check() {
    }

    static void same(String what, long got, long want) {
        made++;
        if (got != want) {
            wrong++;
            if (wrong <= 40) {
                System.out.println(what + ": answered " + got + ", due is " + want);
            }
        }
    }

    static void same(String what, boolean got, boolean want) {
        same(what, got ? 1 : 0, want ? 1 : 0);
    }

    static void fails(String what) {
        same(what, 1, 0);
    }

    /** Behind the TAPE, by as many calls of feed as it needs. */
    static int feed(LanternHall x, String text) {
        int signs = x.count(15);
        for (int from = 0; from < text.length(); from += 24) {
            long[] words = new long[3];
            for (int i = 0; i < 24; i++) {
                int sign = from + i < text.length() ? text.charAt(from + i) : 0;
                words[i / 8] |= (long) sign << 56 - 8 * (i % 8);
            }
            signs = x.feed(words[0], words[1], words[2]);
        }
        return signs;
    }

    static int tellHall(LanternHall x, String text) {
        feed(x, text);
        return x.hall();
    }

    static int tellNight(LanternHall x, String text) {
        feed(x, text);
        return x.night();
    }

    /** A new object with this HALL. */
    static LanternHall hall(String text) {
        LanternHall x = new LanternHall();
        same("hall '" + text + "'", tellHall(x, text), 0);
        return x;
    }

    static final int THREW = -100;

    static int rests(LanternHall x, int both, int loses, int gets, int what) {
        try {
            return x.rests(both, loses, gets, what);
        } catch (NoSuchElementException e) {
            return THREW;
        }
    }

    static void end(String name) {
        System.out.println(name + ": " + made + " checks, " + wrong + " wrong");
        if (wrong != 0) {
            System.exit(1);
        }
    }
}
