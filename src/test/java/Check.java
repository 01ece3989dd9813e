import java.util.ArrayList;
import java.util.List;
import java.util.NoSuchElementException;

/** Counts wrong answers, and tells TAPEs to a LanternHall as text. */
final class Check {
    private static int wrong = 0;
    private static int made = 0;
    private static String sentence = "";
    private static final List<String> QUOTED = new ArrayList<>();
    private static final List<Integer> CHECKS_OF = new ArrayList<>();

    private Check() {
    }

    static void same(String what, long got, long want) {
        same(what, Long.toString(got), Long.toString(want));
    }

    static void same(String what, boolean got, boolean want) {
        same(what, got ? 1 : 0, want ? 1 : 0);
    }

    static void same(String what, String got, String want) {
        made++;
        if (!CHECKS_OF.isEmpty()) {
            int last = CHECKS_OF.size() - 1;
            CHECKS_OF.set(last, CHECKS_OF.get(last) + 1);
        }
        if (!got.equals(want)) {
            wrong++;
            if (wrong <= 40) {
                System.out.println(sentence + what + ": answered " + got + ", due is " + want);
            }
        }
    }

    /** The words of the document that the checks from here on are of. */
    static void sentence(String text) {
        sentence = "[" + text + "] ";
        QUOTED.add(text);
        CHECKS_OF.add(0);
    }

    static List<String> quoted() {
        return QUOTED;
    }

    /** How many checks were made of the sentence with this place in quoted(). */
    static int checksOf(int place) {
        return CHECKS_OF.get(place);
    }

    /** Behind the TAPE, by as many calls of feed as it needs. */
    static int feed(LanternHall x, String text) {
        int signs = x.count(15);
        for (int from = 0; from < text.length(); from += 24) {
            long[] words = new long[3];
            for (int i = 0; i < 24; i++) {
                int sign = from + i < text.length() ? text.charAt(from + i) : 0;
                words[i / 8] |= (long) sign << 56 - 8 * (i % 8);
            }
            signs = x.feed(words[0], words[1], words[2]);
        }
        return signs;
    }

    static int tellHall(LanternHall x, String text) {
        feed(x, text);
        return x.hall();
    }

    static int tellNight(LanternHall x, String text) {
        feed(x, text);
        return x.night();
    }

    /** A new object with this HALL. */
    static LanternHall hall(String text) {
        LanternHall x = new LanternHall();
        same("hall '" + text + "'", tellHall(x, text), 0);
        return x;
    }

    static final int THREW = -100;

    static int rests(LanternHall x, int both, int loses, int gets, int what) {
        try {
            return x.rests(both, loses, gets, what);
        } catch (NoSuchElementException e) {
            return THREW;
        }
    }

    /** What the object answers now, by some hundred calls: three of these leave room for others within its 512. */
    static String state(LanternHall x) {
        StringBuilder told = new StringBuilder("count");
        for (int what = 0; what < 16; what++) {
            told.append(' ').append(x.count(what));
        }
        for (int i = 0; i < 6; i++) {
            told.append(" visitor ").append(x.visitor(i, 0)).append(' ').append(x.visitor(i, 1));
            told.append(' ').append(x.visitor(i, 2)).append(' ').append(x.visitor(i, 3));
            told.append(' ').append(x.visitor(i, 4)).append(" at ").append(x.at(i, 0)).append(' ').append(x.at(i, 7));
        }
        for (int i = 0; i < 4; i++) {
            told.append(" vase ").append(x.vase(i, 0)).append(' ').append(x.vase(i, 1));
            told.append(" gap ").append(x.gap(i));
        }
        for (int cell = 0; cell < 12; cell++) {
            told.append(" shown ").append(x.shown(cell));
        }
        told.append(" light ").append(x.light()).append(' ').append(x.sees()).append(' ').append(x.treasures());
        told.append(" judged ").append(x.judged(0)).append(' ').append(x.judged(1)).append(' ').append(x.judged(2));
        told.append(" days ").append(x.days()).append(' ').append(x.ask()).append(" never ").append(x.never());
        for (int hours = 0; hours < 8; hours++) {
            told.append(" fellow ").append(x.fellow(hours));
        }
        return told.append(" meet ").append(x.meet()).append(" nights ").append(x.nights(7, 40, 0)).toString();
    }

    static void end(String name) {
        System.out.println(name + ": " + made + " checks, " + wrong + " wrong");
        if (wrong != 0) {
            System.exit(1);
        }
    }
}
