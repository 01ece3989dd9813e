/** For each promise of the document: ordinary inputs, its edges and wrong inputs, worked out by hand. */
public final class PromisesTest {
    /** Two of day 0 on one cell, a lady of day 1, two thieves, a vase that both take, one beyond the hall. */
    private static final String MUSEUM = "cells 10; pillar 7; beam 3; oil 20; guard 4; fellow 9 11 0;"
            + "visitor ann plain on 0 goes 5 5 4 3;"
            + "visitor tim child on 0 goes 5 6 5;"
            + "visitor ivy lady on 1 goes 2 3;"
            + "visitor rob thief on 0 goes 11 9 8 3;"
            + "visitor sly thief on 0 goes 0 1 3;"
            + "vase urn at 3; vase jug at 10; vase pot at 8; pillar 10;";

    private static void same(String what, long got, long want) {
        Check.same(what, got, want);
    }

    private static void same(String what, boolean got, boolean want) {
        Check.same(what, got, want);
    }

    private static LanternHall hall(String text) {
        return Check.hall(text);
    }

    private static void counts(String what, LanternHall x, int... want) {
        for (int i = 0; i < want.length; i++) {
            same(what + " count(" + i + ")", x.count(i), want[i]);
        }
    }

    public static void main(String[] args) {
        newObject();
        feed();
        hallIsTaken();
        nightIsTaken();
        visitorAndAt();
        vaseAndTreasures();
        lightAndShown();
        laws();
        sees();
        step();
        trimAndFill();
        undo();
        judged();
        shortest();
        cover();
        sayDaysAsk();
        meetNeverFellow();
        takenAndChance();
        passAndFollows();
        bestAndBlot();
        byDay();
        alibiExposedWavers();
        reach();
        choose();
        would();
        rests();
        nights();
        mark();
        count();
        Check.end("PromisesTest");
    }

    private static void newObject() {
        counts("new", new LanternHall(), 8, 0, 0, 2, 0, 0, 0, 30, 0, 0, 0, 0, 0, 0, 0, 0);
        counts("empty hall", hall(""), 8, 0, 0, 2, 0, 0, 0, 30, 0, 0, 0, 0, 0, 0, 0, 0);
        same("new shown", new LanternHall().shown(2), 0);
        same("new light", new LanternHall().light(), 7);
        same("new days", new LanternHall().days(), 15);
        same("new ask", new LanternHall().ask(), -1);
        same("new mark", new LanternHall().mark(0, true), false);
        same("new undo", new LanternHall().undo(), false);
        same("new judged", new LanternHall().judged(0), -1);
        same("new reach", new LanternHall().reach(7), 7);
        same("NONE", LanternHall.NONE, -1);
    }

    private static void feed() {
        LanternHall x = new LanternHall();
        same("no signs", x.feed(0, 0, 0), 0);
        same("signs left out", x.feed(0x0A207E7F1F8009FFL, -1L, 0x0D0B000102030400L), 3);
        same("these are 10, 32, 126", x.hall(), 1 + 16 * 2);
        same("the highest first", x.feed(0x63656C6C73203920L, 0x3B00000000000000L, 0), 9);
        same("cells 9 ;", x.hall(), 0);
        same("nine", x.count(0), 9);
        same("a, b, c", x.feed(0x6365L, 0x6C6C00000000L, 0x7300003130003B00L), 8);
        same("cells10; in pieces", x.hall(), 0);
        same("ten", x.count(0), 10);
        Check.feed(x, " ".repeat(990) + "cells 5 ;");
        same("999", x.count(15), 999);
        same("to 1,000", x.feed(0x203F3F3F3F3F3F3FL, 0x3F3F3F3F3F3F3F3FL, 0x3F3F3F3F3F3F3F3FL), 1000);
        same("full", x.feed(0x3F3F3F3F3F3F3F3FL, 0, 0), 1000);
        same("what is beyond is left out", x.hall(), 0);
        same("five", x.count(0), 5);
        same("it is taken", x.count(15), 0);
        Check.feed(x, " ".repeat(1000));
        same("night takes it too", x.night(), 0);
        same("it is taken", x.count(15), 0);
    }

    private static void hallIsTaken() {
        LanternHall x = hall(MUSEUM);
        Check.tellNight(x, "on;rest;");
        x.step(-1);
        x.trim(1);
        x.say(0, 5, true);
        for (int mark = 0; mark < 4; mark++) {
            x.mark(mark, false);
        }
        int[] before = {10, 5, 3, 3, 3, 1, 1, 17, 1, 0, x.count(10), 128, 2, 1, 2, 0};
        counts("changed", x, before);
        same("a FAULT", Check.tellHall(x, "cells 3; visitor a"), 1 + 16 * 18);
        counts("all stays", x, before);
        same("the MARK too", x.mark(2, true), true);
        same("ivy is still there", x.at(2, 1), 3);
        same("a HALL", Check.tellHall(x, "cells 3; oil 7; guard 2;"), 0);
        counts("all is new", x, 3, 0, 0, 2, 2, 0, 0, 7, 0, 0, 0, 0, 0, 0, 0, 0);
        for (int mark = 0; mark < 4; mark++) {
            same("no MARK", x.mark(mark, true), false);
        }
        same("nothing can be undone", x.undo(), false);
        same("DAYS", x.days(), 15);
        same("nobody", x.visitor(0, 0), -2);
        same("no fellow", x.fellow(0), -1);
        same("told later", Check.tellHall(x, "guard 9; pillar 5; vase v at 5; cells 4;"), 0);
        counts("told later", x, 4, 0, 1, 2, 3, 0, 0, 30, 0, 0, 0, 0);
        same("vase beyond", x.vase(0, 0), -1);
    }

    private static void nightIsTaken() {
        LanternHall x = hall("visitor a plain on 0 goes 1;");
        same("three lines", Check.tellNight(x, "on;trim 2;\nrest;"), 0);
        same("lines", x.count(12), 3);
        same("first bump", x.judged(1), 0);
        same("a FAULT", Check.tellNight(x, "rest;rest;trim 4;"), 4 + 16 * 15);
        same("all stays", x.count(12), 3);
        same("all stays", x.judged(1), 0);
        same("no lines", Check.tellNight(x, ""), 0);
        same("lines", x.count(12), 0);
        same("judged", x.judged(1), -1);
        same("a NIGHT is not walked", x.count(8), 0);
    }

    private static void visitorAndAt() {
        LanternHall x = hall(MUSEUM);
        int[] kinds = {0, 1, 2, 3, 3};
        int[] days = {0, 0, 1, 0, 0};
        int[] cells = {5, 5, 2, -1, 0};
        int[] seen = {1, 1, 0, 0, 0};
        for (int v = 0; v < 5; v++) {
            same("kind " + v, x.visitor(v, 0), kinds[v]);
            same("day " + v, x.visitor(v, 1), days[v]);
            same("cell " + v, x.visitor(v, 2), cells[v]);
            same("SEEN " + v, x.visitor(v, 3), 0);
            same("seen now " + v, x.visitor(v, 4), seen[v]);
        }
        x.step(0);
        same("SEEN ann", x.visitor(0, 3), 1);
        same("SEEN sly", x.visitor(4, 3), 1);
        same("SEEN ivy", x.visitor(2, 3), 0);
        same("ivy now", x.visitor(2, 2), 3);
        same("others", x.visitor(5, 0), -2);
        same("others", x.visitor(-1, 0), -2);
        same("others", x.visitor(0, 5), -2);
        same("others", x.visitor(0, -1), -2);
        int[][] places = {{5, 5, 4, 3, -1, -1, -1, -1}, {5, 6, 5, -1, -1, -1, -1, -1}, {2, 3, 3, 3, 3, 3, 3, 3},
            {-1, 9, 8, 3, -1, -1, -1, -1}, {0, 1, 3, -1, -1, -1, -1, -1}};
        for (int v = 0; v < 5; v++) {
            for (int hour = 0; hour < 8; hour++) {
                same("at " + v + " " + hour, x.at(v, hour), places[v][hour]);
            }
        }
        same("at others", x.at(0, 8), -1);
        same("at others", x.at(2, -1), -1);
        same("at others", x.at(5, 0), -1);
        same("at others", x.at(-1, 0), -1);
        LanternHall y = hall("cells 3; visitor a lady on 0 goes 1 4;");
        same("a lady beyond", y.at(0, 5), -1);
    }

    private static void vaseAndTreasures() {
        LanternHall x = hall(MUSEUM);
        same("urn", x.vase(0, 0), 3);
        same("jug is not there at all", x.vase(1, 0), -1);
        same("pot", x.vase(2, 0), 8);
        same("urn is seen", x.vase(0, 1), 1);
        same("jug is not", x.vase(1, 1), 0);
        same("pot is behind a pillar", x.vase(2, 1), 0);
        same("treasures", x.treasures(), 1);
        same("others", x.vase(3, 0), -2);
        same("others", x.vase(-1, 0), -2);
        same("others", x.vase(0, 2), -2);
        same("others", x.vase(0, -1), -2);
        x.step(0);
        same("an hour ahead of it", x.vase(0, 1), 1);
        x.step(0);
        same("taken at hour 2", x.vase(0, 1), 0);
        same("taken", x.treasures(), 0);
        x.trim(1);
        same("not on day 1", x.treasures(), 1);
        x.trim(0);
        for (int i = 0; i < 5; i++) {
            x.step(0);
        }
        same("hour 7", x.treasures(), 0);
        x.step(0);
        same("hour 0 again", x.treasures(), 1);
        LanternHall y = hall("oil 1; vase a at 1; vase b at 2; vase c at 3; pillar 2; beam 5;");
        same("in a pillar, not behind", y.treasures(), 3);
        y.step(0);
        same("without oil", y.treasures(), 0);
    }

    private static void lightAndShown() {
        LanternHall x = hall("cells 12; pillar 3; pillar 8; guard 5; beam 5; oil 1;");
        same("to the pillars", x.light(), 0b000111111000);
        same("a pillar shows", x.shown(3), 0);
        same("behind it", x.shown(2), -1);
        same("others", x.shown(-1), -1);
        same("others", x.shown(12), -1);
        x.step(0);
        same("without oil", x.light(), 0);
        same("without oil", x.shown(5), -1);
        same("beam 1", hall("guard 3; beam 1;").light(), 0b11100);
        same("at the end", hall("cells 4; guard 3; beam 5;").light(), 0b1111);
        same("out of a pillar", hall("cells 6; guard 3; pillar 3; beam 2;").light(), 0b111110);
    }

    private static int shows(String law, int cell) {
        LanternHall x = hall("cells 12; beam 5; guard 4; oil 9; shows " + law + ";");
        x.trim(2);
        x.step(0);
        x.step(0);
        x.step(0);
        return x.shown(cell);
    }

    /** day 2, left 4, hour 3, far 3 at CELL 1. */
    private static void laws() {
        Object[][] cases = {{"day", 2}, {"left", 3}, {"left - 1", 3}, {"left - 2", 2}, {"hour", 3}, {"far", 3},
            {"far - 1", 2}, {"0 - 1", 0}, {"4", 3}, {"9999", 3}, {"not day", 0}, {"not 0", 1}, {"not not 7", 1},
            {"day and left", 1}, {"0 and 1", 0}, {"0 or 2", 1}, {"1 or 1 and 0", 0}, {"1 or (1 and 0)", 1},
            {"0 and 0 or 1", 1}, {"0 and (0 or 1)", 0}, {"2 < 3", 1}, {"3 < 3", 0}, {"3 = 3", 1}, {"3 = 2", 0},
            {"1 + 2 < 2 + 2", 1}, {"7 - 3 - 2", 2}, {"7 - (3 - 2) - 4", 2}, {"1 + 2 * 0", 1}, {"(1 + 2) * 0", 0},
            {"2 * not 0", 2}, {"not 1 + 2", 2}, {"not (1 + 2) + 1", 1}, {"not day = 2", 0}, {"not (day = 2)", 0},
            {"not (day = 1)", 1}, {"1 < 2 and 2 < 3", 1}, {"(1 < 2) + (2 < 3)", 2}, {"3 = 3 or 1 < 0", 1},
            {"9999 * 9999 * 21 < 0", 0}, {"9999 * 9999 * 22 < 0", 1}, {"9999 * 9999 * 43 < 9999 * 999", 1},
            {"((((day))))", 2}, {"not not not not 5", 1}};
        for (Object[] c : cases) {
            same("shows " + c[0], shows((String) c[0], 1), (Integer) c[1]);
        }
        same("far 0 in his own CELL", shows("far", 4), 0);
        same("far 2", shows("far", 6), 2);
        StringBuilder ones = new StringBuilder("1");
        while (ones.length() < 970 - 90) {
            ones.append("-1+1");
        }
        same("a long one", shows(ones.toString(), 4), 1);
    }

    private static void sees() {
        LanternHall x = hall(MUSEUM);
        same("ann and tim", x.sees(), 3);
        x.trim(1);
        same("ivy", x.sees(), 4);
        x.step(0);
        same("ivy at 3", x.sees(), 4);
        LanternHall y = hall("beam 3; visitor a plain on 0 goes 0; visitor b plain on 1 goes 1;"
                + "visitor c plain on 2 goes 2; visitor d plain on 2 goes 3; visitor e plain on 1 goes 0; shows far;");
        same("days by distance", y.sees(), 7);
        LanternHall z = hall("oil 2; visitor a lady on 1 goes 1; shows left < 2;");
        same("two oil", z.sees(), 0);
        z.step(0);
        same("last winter", z.sees(), 1);
        same("SEEN", z.count(10), 1);
        z.step(0);
        same("no oil", z.sees(), 0);
    }

    private static void step() {
        LanternHall x = hall("cells 4; beam 1; oil 3; visitor a plain on 0 goes 1 9 1; visitor b child on 0 goes 1;"
                + "visitor c lady on 1 goes 1;");
        same("a and b, the child twice", x.step(1), 3);
        counts("bumped", x, 4, 3, 0, 1, 0, 1, 0, 2, 1, 3, 0);
        same("nobody of the day", x.step(1), 0);
        counts("went on", x, 4, 3, 0, 1, 1, 2, 0, 1, 2, 3, 1);
        same("rest beside a, in his CELL", x.step(0), 0);
        counts("no oil", x, 4, 3, 0, 1, 1, 3, 0, 0, 3, 3, 1);
        same("none below 0", x.step(1), 0);
        counts("oil stays 0", x, 4, 3, 0, 1, 2, 4, 0, 0, 4, 3, 1);
        x.step(1);
        same("no CELL beyond", x.step(1), 0);
        same("he stays", x.count(4), 3);
        same("hour 6", x.count(5), 6);
        x.step(-1);
        x.step(-1);
        same("behind 7: 0", x.count(5), 0);
        same("dark: no bump", x.step(-1), 0);
        same("others", x.step(2), -1);
        same("others", x.step(-2), -1);
        same("others", x.step(Integer.MIN_VALUE), -1);
        same("steps", x.count(8), 9);
        same("at the begin", x.step(-1), 0);
        same("he stays", x.count(4), 0);
        LanternHall y = hall("pillar 1; visitor a lady on 0 goes 1;");
        same("a pillar: no bump", y.step(1), 0);
        same("he stays", y.count(4), 0);
        same("he sees her there", y.count(10), 1);
        LanternHall z = hall("visitor a lady on 0 goes 0; visitor b lady on 0 goes 2;");
        same("by steps alone", z.count(10), 0);
        z.trim(0);
        same("not by trimming", z.count(10), 0);
        same("out of a's CELL", z.step(1), 0);
        same("a, b are SEEN", z.count(10), 3);
        same("back into a", z.step(-1), 1);
        same("guard in a pillar goes", stepped("pillar 3; guard 3;", -1), 2);
        same("guard in a pillar rests", stepped("pillar 3; guard 3;", 0), 3);
    }

    private static int stepped(String text, int way) {
        LanternHall x = hall(text);
        x.step(way);
        return x.count(4);
    }

    private static void trimAndFill() {
        LanternHall x = hall("oil 4;");
        same("others", x.trim(4), -1);
        same("others", x.trim(-1), -1);
        same("trim", x.trim(3), 2);
        same("day", x.count(6), 3);
        same("hour stays", x.count(5), 0);
        same("the same day", x.trim(3), 0);
        same("it can't be", x.trim(1), -1);
        same("day stays", x.count(6), 3);
        same("two can be undone", x.count(14), 2);
        same("fill others", x.fill(0), -1);
        same("fill others", x.fill(100), -1);
        same("fill others", x.fill(-5), -1);
        same("fill", x.fill(1), 1);
        same("one oil: it can't be", x.trim(1), -1);
        same("fill", x.fill(90), 91);
        same("99 at most", x.fill(99), 99);
        same("99 at most", x.fill(1), 99);
        same("oil", x.count(7), 99);
        same("can be undone", x.count(14), 6);
    }

    private static void undo() {
        LanternHall x = hall("visitor a child on 0 goes 1 1 1 1 1 1 1 1;");
        same("nothing", x.undo(), false);
        x.step(1);
        x.trim(2);
        x.fill(9);
        x.step(1);
        counts("four", x, 8, 1, 0, 2, 1, 2, 2, 35, 2, 2, 1);
        same("undo", x.undo(), true);
        counts("three", x, 8, 1, 0, 2, 0, 1, 2, 36, 1, 2, 1);
        same("undo", x.undo(), true);
        same("undo", x.undo(), true);
        counts("one", x, 8, 1, 0, 2, 0, 1, 0, 29, 1, 2, 1, 0, 0, 0, 1);
        same("undo", x.undo(), true);
        counts("none", x, 8, 1, 0, 2, 0, 0, 0, 30, 0, 0, 0, 0, 0, 0, 0);
        same("nothing", x.undo(), false);
        for (int i = 0; i < 20; i++) {
            x.step(0);
        }
        same("sixteen", x.count(14), 16);
        for (int i = 0; i < 16; i++) {
            same("undo " + i, x.undo(), true);
        }
        same("no more", x.undo(), false);
        same("four steps stay", x.count(8), 4);
        x.say(0, 0, true);
        x.step(0);
        x.undo();
        same("what is SAID stays", x.count(13), 1);
        same("what can't be is not kept", x.step(3) + x.trim(9) + x.fill(0), -3);
        same("nothing", x.undo(), false);
    }

    private static void judged() {
        LanternHall x = hall("oil 3; visitor a plain on 1 goes 9 9 1 1; visitor b plain on 0 goes 2;");
        same("no NIGHT", x.judged(0), -1);
        same("no NIGHT", x.judged(2), 0);
        x.step(1);
        x.step(1);
        same("now", x.count(10), 0);
        same("night", Check.tellNight(x, "trim 1; trim 0; fill 1; rest; rest; on; trim 1;"), 0);
        same("the second trim", x.judged(0), 1);
        same("no bump: no oil", x.judged(1), -1);
        same("dark at hour 2", x.judged(2), 0);
        Check.tellNight(x, "trim 1; fill 9; rest; rest; on; fill 1; on;");
        same("all can be", x.judged(0), -1);
        same("a bump at line 4", x.judged(1), 4);
        same("a was SEEN", x.judged(2), 1);
        Check.tellNight(x, "rest;rest;rest;trim 1;trim 1;fill 1;trim 1;");
        same("the first", x.judged(0), 3);
        same("others", x.judged(3), -2);
        same("others", x.judged(-1), -2);
        same("from the begin, nothing now", x.count(8), 2);
        Check.tellNight(x, "fill 99; on; back; rest; rest; rest; rest; rest; rest;");
        same("b is SEEN at last", x.judged(2), 2);
    }

    private static void shortest() {
        String far = "cells 4; beam 1; visitor a plain on 0 goes 3; oil ";
        same("the next day's hour 0", hall(far + "9;").shortest(1), 8);
        same("no oil then", hall(far + "8;").shortest(1), -1);
        same("40", hall("cells 2; oil 99; visitor a lady on 1 goes 0; shows left = 59;").shortest(1), 40);
        same("41", hall("cells 2; oil 99; visitor a lady on 1 goes 0; shows left = 58;").shortest(1), -1);
        LanternHall x = hall("cells 5; beam 1; visitor a lady on 0 goes 0; visitor b lady on 0 goes 4;"
                + "visitor c lady on 1 goes 2;");
        same("none", x.shortest(0), 0);
        same("a: a rest", x.shortest(1), 1);
        same("b", x.shortest(2), 3);
        same("both", x.shortest(3), 3);
        same("not of day 0", x.shortest(4), -1);
        same("others", x.shortest(8), -1);
        same("others", x.shortest(-1), -1);
        x.step(1);
        same("a was SEEN", x.shortest(1), 0);
        same("b", x.shortest(3), 2);
        x.step(1);
        x.step(1);
        same("all were SEEN", x.shortest(3), 0);
        LanternHall y = hall("cells 6; beam 1; visitor a lady on 0 goes 2; visitor b lady on 0 goes 5;");
        same("a stands in the way", y.shortest(2), -1);
        same("till there is no oil", y.shortest(1), 1);
        LanternHall z = hall("cells 6; beam 2; guard 2; visitor a lady on 0 goes 0; visitor b lady on 0 goes 5;");
        same("one way and the other", z.shortest(3), 2);
        same("without steps nothing changes", z.count(8), 0);
        same("back from the last CELL", hall("cells 12; guard 11; beam 1; visitor a lady on 0 goes 8;").shortest(1), 2);
        same("on to the last CELLS", hall("cells 12; guard 8; beam 1; visitor a lady on 0 goes 11;").shortest(1), 2);
    }

    private static void cover() {
        same("two of 2", hall("cells 2; beam 1;").cover(), 1);
        same("12, beam 5", hall("cells 12; beam 5;").cover(), 0b1000001);
        same("12, beam 1", hall("cells 12; beam 1;").cover(), 0b010010010010);
        same("of equal ones the least", hall("cells 4; beam 2;").cover(), 2);
        same("a pillar is lit too", hall("cells 5; beam 5; pillar 2;").cover(), 0b01001);
        same("pillars are no places", hall("cells 3; beam 1; pillar 1;").cover(), 0b101);
        same("two pillars at the end", hall("cells 5; pillar 0; pillar 1;").cover(), -1);
        same("all pillars", hall("cells 2; pillar 0; pillar 1;").cover(), -1);
        same("without oil", hall("oil 0; cells 5;").cover(), 0b100);
    }

    private static void sayDaysAsk() {
        LanternHall x = hall("cells 5; visitor a plain on 0 goes 1 2; visitor b lady on 1 goes 1 3;"
                + "visitor c plain on 2 goes 2 2; visitor d plain on 2 goes 7;");
        same("all", x.days(), 15);
        same("hour 0, CELL 1 parts two and two", x.ask(), 1);
        same("others", x.say(-1, 0, true), false);
        same("others", x.say(8, 0, true), false);
        same("others", x.say(0, -1, true), false);
        same("others", x.say(0, 5, true), false);
        same("none of these", x.count(13), 0);
        same("nobody at 3 at hour 1", x.say(1, 3, false), true);
        same("not day 1", x.days(), 13);
        same("greater 2 of 3, first", x.ask(), 1);
        same("somebody at 2 at hour 1", x.say(1, 2, true), true);
        same("0 or 2", x.days(), 5);
        same("ask", x.ask(), 1);
        same("somebody at 2 at hour 0", x.say(0, 2, true), true);
        same("day 2", x.days(), 4);
        same("one alone", x.ask(), -1);
        same("nobody there", x.say(0, 2, false), true);
        same("no day", x.days(), 0);
        same("none parts them", x.ask(), -1);
        for (int i = 4; i < 8; i++) {
            same("say " + i, x.say(0, 0, false), true);
        }
        same("eight", x.count(13), 8);
        same("a ninth", x.say(0, 0, false), false);
        same("eight", x.count(13), 8);
        LanternHall y = hall("cells 12; visitor a plain on 3 goes 0 0 11;");
        y.say(0, 0, false);
        same("none parts 0, 1, 2", y.ask(), -1);
        LanternHall z = hall("cells 12; visitor a plain on 3 goes 11 0; visitor b plain on 2 goes 11 0 9;");
        same("12 * 0 + 11", z.ask(), 11);
        z.say(0, 11, true);
        same("12 * 2 + 9", z.ask(), 33);
    }

    private static void meetNeverFellow() {
        LanternHall x = hall("cells 10; beam 1; oil 3; fellow 9 11 6 2;");
        int[] cells = {9, 9, 6, 2};
        for (int h = 0; h <= 40; h++) {
            same("fellow " + h, x.fellow(h), cells[h % 4]);
        }
        same("others", x.fellow(-1), -1);
        same("others", x.fellow(41), -1);
        same("in three hours there is no oil", x.meet(), -1);
        x.fill(1);
        same("in three", x.meet(), 3);
        x.step(0);
        same("steps are counted", x.fellow(0), 9);
        same("steps are counted", x.fellow(1), 6);
        same("in two", x.meet(), 2);
        same("never", x.never(), 0b0000010001);
        x.step(0);
        x.step(0);
        same("at once", x.meet(), 0);
        LanternHall y = new LanternHall();
        same("no fellow", y.fellow(0), -1);
        same("no fellow", y.meet(), -1);
        same("no fellow: all", y.never(), 255);
        LanternHall z = hall("cells 6; pillar 3; guard 0; beam 5; fellow 5;");
        same("both light the pillar", z.meet(), 0);
        same("never behind it", z.never(), 7);
        LanternHall w = hall("cells 6; pillar 3; pillar 2; guard 0; beam 5; fellow 5; oil 99;");
        same("not by 40", w.meet(), -1);
        LanternHall d = hall("oil 0; fellow 0;");
        same("dark", d.meet(), -1);
        same("the fellow's oil lasts", d.never(), 0b11111000);
    }

    private static void takenAndChance() {
        LanternHall x = hall(MUSEUM);
        same("urn at hour 2", x.taken(0, 0, 0), 2);
        same("by sly", x.taken(0, 0, 1), 4);
        same("not on day 1 by a lady", x.taken(0, 1, 0), -1);
        same("not on day 1", x.taken(0, 1, 1), -1);
        same("jug is not there", x.taken(1, 0, 0), -1);
        same("pot at hour 2", x.taken(2, 0, 0), 2);
        same("by rob", x.taken(2, 0, 1), 3);
        same("others", x.taken(3, 0, 0), -1);
        same("others", x.taken(-1, 0, 0), -1);
        same("others", x.taken(0, 4, 0), -1);
        same("others", x.taken(0, -1, 0), -1);
        same("others", x.taken(0, 0, 2), -1);
        same("others", x.taken(0, 0, -1), -1);
        same("two thieves", x.chance(0, 0, 3), 510000);
        same("one", x.chance(2, 0, 3), 300000);
        same("nobody", x.chance(0, 1, 3), 0);
        same("jug", x.chance(1, 0, 10), 0);
        same("never", x.chance(0, 0, 0), 0);
        same("surely", x.chance(0, 0, 10), 1000000);
        same("others", x.chance(0, 0, 11), -1);
        same("others", x.chance(0, 0, -1), -1);
        same("others", x.chance(3, 0, 5), -1);
        same("others", x.chance(-1, 0, 5), -1);
        same("others", x.chance(0, 4, 5), -1);
        same("others", x.chance(0, -1, 5), -1);
        StringBuilder six = new StringBuilder("vase v at 1;");
        for (char name = 'a'; name <= 'f'; name++) {
            six.append("visitor ").append(name).append(" thief on 2 goes 0 1;");
        }
        LanternHall y = hall(six.toString());
        same("six of one in ten", y.chance(0, 2, 1), 468559);
        same("of some the first", y.taken(0, 2, 1), 0);
        same("hour 1", y.taken(0, 2, 0), 1);
    }

    private static void passAndFollows() {
        LanternHall x = hall(MUSEUM);
        same("ann and tim at once", x.pass(0, 1), 0);
        same("tim and ann", x.pass(1, 0), 0);
        same("ann and rob at hour 3", x.pass(0, 3), 3);
        same("tim and rob never", x.pass(1, 3), -1);
        same("ann and ivy: other days", x.pass(0, 2), -1);
        same("the same", x.pass(0, 0), -1);
        same("others", x.pass(0, 5), -1);
        same("others", x.pass(-1, 0), -1);
        same("tim follows ann", x.follows(1, 0), 0b100);
        same("ann follows tim", x.follows(0, 1), 0b10);
        same("rob follows sly", x.follows(3, 4), 0b1000);
        same("sly follows rob", x.follows(4, 3), 0);
        same("other days", x.follows(0, 2), -1);
        same("the same", x.follows(1, 1), -1);
        same("others", x.follows(5, 0), -1);
        same("others", x.follows(0, -1), -1);
        LanternHall y = hall("cells 3; visitor a plain on 1 goes 5 5; visitor b plain on 1 goes 5 5;"
                + "visitor c lady on 1 goes 0 1 2; visitor d lady on 1 goes 2;");
        same("beyond the hall is no CELL", y.pass(0, 1), -1);
        same("beyond the hall is no CELL", y.follows(0, 1), 0);
        same("two ladies", y.pass(2, 3), 2);
        same("to the end", y.follows(2, 3), 0b11111100);
        same("she behind c", y.follows(3, 2), 0b11111000);
    }

    private static void bestAndBlot() {
        LanternHall x = hall("cells 9; beam 1; visitor a lady on 0 goes 4; visitor b lady on 0 goes 6;"
                + "visitor c lady on 1 goes 5; visitor d lady on 0 goes 1;");
        same("between a and b", x.best(), 5);
        x.trim(1);
        same("next to c", x.best(), 4);
        x.trim(2);
        same("nobody: the first", x.best(), 0);
        same("a pillar is no place", hall("cells 9; beam 1; pillar 5; pillar 0; visitor a lady on 0 goes 4;"
                + "visitor b lady on 0 goes 6;").best(), 3);
        same("all pillars", hall("cells 2; pillar 0; pillar 1;").best(), -1);
        same("no oil: the first without", hall("oil 0; pillar 0; visitor a lady on 0 goes 3;").best(), 1);
        LanternHall y = hall("cells 9; guard 4; beam 4; visitor a lady on 0 goes 2; visitor b lady on 0 goes 7;"
                + "visitor c lady on 0 goes 8; visitor d lady on 1 goes 0;");
        same("5 hides two", y.blot(), 5);
        y.trim(1);
        same("1 hides d", y.blot(), 1);
        y.trim(3);
        same("nobody: the first", y.blot(), 0);
        same("a pillar there already", hall("cells 9; guard 4; beam 4; pillar 5; visitor a lady on 0 goes 2;").blot(), 3);
        same("not in her own CELL", hall("cells 9; guard 4; beam 4; pillar 5; pillar 0; visitor a lady on 0 goes 3;")
                .blot(), 1);
        StringBuilder six = new StringBuilder();
        for (char name = 'a'; name <= 'f'; name++) {
            six.append("visitor ").append(name).append(" lady on 0 goes 0;");
        }
        same("six seen, none can be hidden", hall(six.toString()).blot(), 0);
        same("all pillars", hall("cells 2; pillar 0; pillar 1;").blot(), -1);
        same("no oil: the first", hall("oil 0; visitor a lady on 0 goes 2;").blot(), 0);
    }

    private static void byDay() {
        LanternHall x = hall(MUSEUM);
        same("lonely 0", x.lonely(0), 4);
        same("lonely 1", x.lonely(1), 0);
        same("lonely 3", x.lonely(3), 0);
        same("others", x.lonely(4), -1);
        same("others", x.lonely(-1), -1);
        same("rob comes at hour 1", hall("cells 3; visitor a plain on 0 goes 1 7 1 1 1 1 1 1;").lonely(0), 1);
        StringBuilder six = new StringBuilder("visitor a plain on 2 goes 1 1 1 1 9 1 1 1;");
        for (char name = 'b'; name <= 'f'; name++) {
            six.append("visitor ").append(name).append(" lady on 2 goes 1;");
        }
        same("five of six at hour 4", hall(six.toString()).lonely(2), 4);
        same("six in a CELL", hall(six.toString()).crowd(2), 6);
        same("crowd 0", x.crowd(0), 2);
        same("crowd 1", x.crowd(1), 1);
        same("crowd 2", x.crowd(2), 0);
        same("others", x.crowd(4), -1);
        same("others", x.crowd(-1), -1);
        same("gap 0", x.gap(0), 0b0010000100);
        same("gap 1", x.gap(1), 0b1111110011);
        same("gap 2", x.gap(2), 1023);
        same("others", x.gap(4), -1);
        same("others", x.gap(-1), -1);
        same("census 0 0", x.census(0, 0), 0b10011);
        same("census 0 1", x.census(0, 1), 0b11011);
        same("census 0 3", x.census(0, 3), 0b01001);
        same("census 0 4", x.census(0, 4), 0);
        same("census 1 7", x.census(1, 7), 4);
        same("others", x.census(4, 0), -1);
        same("others", x.census(0, 8), -1);
        same("others", x.census(-1, 0), -1);
        same("others", x.census(0, -1), -1);
        same("2 and 3", x.same(), 1);
        same("all", new LanternHall().same(), 6);
        same("0 as 1, 2 as 3", hall("visitor a plain on 0 goes 1 2 2 2 2 2 2 2; visitor b lady on 1 goes 1 2;"
                + "visitor c plain on 1 goes 1;").same(), 2);
        same("three alike", hall("visitor a plain on 0 goes 1;").same(), 3);
        same("beyond is nobody", hall("cells 4; visitor a plain on 0 goes 5;").same(), 6);
        same("none alike", hall("visitor a plain on 0 goes 1; visitor b plain on 1 goes 2; visitor c plain on 2 goes 3;")
                .same(), 0);
    }

    private static void alibiExposedWavers() {
        LanternHall x = hall(MUSEUM);
        same("ann not at 5", x.alibi(0, 5), 0b1100);
        same("ivy not at 3", x.alibi(2, 3), 1);
        same("rob not at 8", x.alibi(3, 8), 0b1010);
        same("tim never at 0", x.alibi(1, 0), 0b111);
        same("others", x.alibi(5, 0), -1);
        same("others", x.alibi(-1, 0), -1);
        same("others", x.alibi(0, 10), -1);
        same("others", x.alibi(0, -1), -1);
        same("ann", x.exposed(0), 0b1111);
        same("ivy of another day too", x.exposed(2), 255);
        same("rob behind the pillar", x.exposed(3), 0b1000);
        same("sly", x.exposed(4), 0b110);
        same("others", x.exposed(5), -1);
        same("others", x.exposed(-1), -1);
        LanternHall y = hall("oil 0; beam 1; visitor a plain on 3 goes 1 2 0;");
        same("were there oil", y.exposed(0), 0b101);
        same("wavers", hall("visitor a plain on 0 goes 1 2 1 2 1;").wavers(0), 3);
        same("staying does not count", hall("visitor a plain on 0 goes 1 2 2 2 3 3 1 1;").wavers(0), 1);
        same("none", hall("visitor a lady on 0 goes 5;").wavers(0), 0);
        same("out of the hall between", hall("cells 4; visitor a plain on 0 goes 1 2 9 3 2;").wavers(0), 1);
        same("coming in is no way", hall("cells 4; visitor a plain on 0 goes 0 1 9 0 1;").wavers(0), 0);
        same("others", x.wavers(5), -1);
        same("others", x.wavers(-1), -1);
    }

    private static void reach() {
        LanternHall x = hall("cells 9; pillar 7; visitor a plain on 0 goes 1 1 1;");
        same("here", x.reach(0), 0);
        same("a goes at hour 3", x.reach(1), 4);
        same("6", x.reach(6), 9);
        same("a pillar", x.reach(7), -1);
        same("behind it", x.reach(8), -1);
        same("others", x.reach(9), -1);
        same("others", x.reach(-1), -1);
        x.trim(1);
        same("another day", x.reach(6), 6);
        same("a lady till the oil ends", hall("oil 5; visitor a lady on 0 goes 1;").reach(1), 6);
        same("not by 40", hall("oil 41; visitor a lady on 0 goes 1;").reach(1), -1);
        same("by 40", hall("oil 39; visitor a lady on 0 goes 1;").reach(1), 40);
        same("41", hall("oil 40; visitor a lady on 0 goes 1;").reach(1), -1);
        LanternHall y = hall("pillar 3; guard 3;");
        same("in a pillar", y.reach(3), -1);
        same("out of it", y.reach(2), 1);
        same("out of it", y.reach(5), 2);
    }

    private static void choose() {
        LanternHall x = hall("oil 4; visitor a lady on 2 goes 1; visitor b lady on 2 goes 2; visitor c lady on 1 goes 0;"
                + "visitor d lady on 3 goes 0; visitor e lady on 3 goes 2;");
        same("two on day 2, the first", x.choose(), 2);
        same("nothing is done", x.count(7), 4);
        same("day stays", x.count(6), 0);
        x.trim(3);
        same("no oil then: the first", x.choose(), 0);
        x.step(0);
        same("one oil", x.choose(), -1);
        same("by the oil then", hall("oil 5; visitor a lady on 1 goes 0; shows (left = 3) * (day = 2);").choose(), 2);
    }

    private static void would() {
        LanternHall x = hall("guard 3; visitor a child on 0 goes 4; visitor b plain on 0 goes 4; visitor c plain on 0 goes 2;"
                + "visitor d plain on 1 goes 2; visitor e plain on 0 goes 3;");
        same("on", x.would(1), 3);
        same("back", x.would(-1), 1);
        same("rest", x.would(0), 0);
        same("others", x.would(2), -1);
        same("others", x.would(-2), -1);
        same("nothing is done", x.count(8), 0);
        same("dark", hall("oil 0; visitor a lady on 0 goes 1;").would(1), 0);
        same("no CELL", hall("").would(-1), 0);
        same("a pillar", hall("pillar 1; visitor a lady on 0 goes 1;").would(1), 0);
        same("by the day that is shown", hall("visitor a lady on 2 goes 1; shows far * 2;").would(1), 1);
    }

    private static void rests() {
        LanternHall x = new LanternHall();
        same("all four", Check.rests(x, 0, 0, 0, -1), 4);
        for (int i = 0; i < 4; i++) {
            same("the " + i, Check.rests(x, 0, 0, 0, i), i);
        }
        same("none such", Check.rests(x, 0, 0, 0, 4), Check.THREW);
        same("both or none", Check.rests(x, 5, 1, 5, -1), 2);
        same("none", Check.rests(x, 5, 1, 5, 0), 0);
        same("both", Check.rests(x, 5, 1, 5, 1), 3);
        same("one", Check.rests(x, 5, 1, 6, -1), 1);
        same("none such", Check.rests(x, 5, 1, 6, 1), Check.THREW);
        same("three", Check.rests(x, 2, 0, 7, -1), 3);
        same("the third", Check.rests(x, 2, 0, 7, 2), 2);
        same("two: not both", Check.rests(x, 9, 0, 7, -1), 2);
        int[][] others = {{-1, 0, 0, -1}, {10, 0, 0, -1}, {0, -1, 0, -1}, {0, 10, 0, -1}, {0, 0, -1, -1},
            {0, 0, 10, -1}, {0, 0, 0, -2}, {0, 0, 0, Integer.MAX_VALUE}, {0, 0, 0, Integer.MIN_VALUE}};
        for (int[] o : others) {
            same("others", Check.rests(x, o[0], o[1], o[2], o[3]), Check.THREW);
        }
        same("nines", Check.rests(x, 9, 9, 9, -1), 2);
    }

    /** From the SEED 1: 16838, 5758, 10113, 17515, 31051, 5627, 23010, 7419, 16212, 4086, 2749, 12767, 9084. */
    private static void nights() {
        LanternHall x = hall("oil 40; visitor a lady on 0 goes 1; visitor b lady on 0 goes 2; visitor c plain on 1 goes 0;");
        same("two rests: both are SEEN", x.nights(1, 2, 0), 3);
        same("no bump", x.nights(1, 2, 1), 0);
        same("rest, rest, on: a bump", x.nights(1, 3, 1), 1);
        same("then back three times, on: another", x.nights(1, 7, 1), 2);
        same("oil", x.nights(1, 7, 2), 33);
        same("a trim", x.nights(1, 12, 2), 26);
        same("all is as ahead", x.count(8) + x.count(14), 0);
        x.step(1);
        x.step(1);
        same("bumps by these", x.nights(1, 3, 1), 1);
        same("bumps", x.count(9), 2);
        same("who was SEEN ahead", x.nights(1, 1, 0), 3);
        same("others", x.nights(-1, 1, 0), -1);
        same("others", x.nights(10000, 1, 0), -1);
        same("others", x.nights(0, 0, 0), -1);
        same("others", x.nights(0, 100, 0), -1);
        same("others", x.nights(0, 1, 3), -1);
        same("others", x.nights(0, 1, -1), -1);
        same("99 of 9999", x.nights(9999, 99, 2), 0);
        // Of the SEED 0 the first is 0: on.
        same("SEED 0: on", x.nights(0, 1, 1), 1);
        // 9084 below 4 is 0: behind a trim to day 2 the twelfth trims it back to day 0, where a is.
        LanternHall y = hall("oil 40; cells 2; visitor a lady on 0 goes 1;");
        y.trim(2);
        same("not till then", y.nights(1, 11, 0), 0);
        same("trimmed to 0", y.nights(1, 12, 0), 1);
        LanternHall z = hall("oil 13; cells 2;");
        same("two oil are left for it", z.nights(1, 12, 2), 0);
        same("it can't be", hall("oil 12;").nights(1, 12, 2), 0);
    }

    private static void mark() {
        LanternHall x = hall("visitor a child on 0 goes 1 1; visitor b lady on 1 goes 1;");
        same("nothing is on it", x.mark(0, true), false);
        same("none such", x.mark(4, false), false);
        same("none such", x.mark(-1, false), false);
        same("none such", x.mark(4, true), false);
        x.step(1);
        x.say(0, 1, true);
        same("laid", x.mark(3, false), true);
        same("undo stays", x.count(14), 1);
        x.step(1);
        x.trim(1);
        x.fill(50);
        x.say(0, 1, false);
        Check.tellNight(x, "on;");
        same("DAYS", x.days(), 0);
        same("back", x.mark(3, true), true);
        counts("as it was", x, 8, 2, 0, 2, 0, 1, 0, 29, 1, 2, 1, 0, 1, 1, 0, 0);
        same("DAYS", x.days(), 3);
        same("nothing can be undone", x.undo(), false);
        x.step(0);
        same("again", x.mark(3, true), true);
        same("steps", x.count(8), 1);
        same("two marks", x.mark(0, false), true);
        x.step(1);
        same("laid anew", x.mark(3, false), true);
        x.mark(0, true);
        same("0", x.count(8), 1);
        x.mark(3, true);
        same("3", x.count(8), 2);
        same("1 is empty", x.mark(1, true), false);
        same("2 is empty", x.mark(2, true), false);
    }

    private static void count() {
        LanternHall x = hall(MUSEUM);
        counts("museum", x, 10, 5, 3, 3, 4, 0, 0, 20, 0, 0, 0, 128, 0, 0, 0, 0);
        Check.tellNight(x, "on;on;");
        Check.feed(x, "abc");
        x.step(1);
        x.trim(1);
        x.say(0, 0, false);
        counts("behind a bump", x, 10, 5, 3, 3, 4, 1, 1, 17, 1, 3, 0b10011, 128, 2, 1, 2, 3);
        same("another", x.count(16), -1);
        same("another", x.count(-1), -1);
        same("another", x.count(Integer.MAX_VALUE), -1);
    }
}
