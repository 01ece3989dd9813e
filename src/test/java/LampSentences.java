import java.math.BigInteger;

/** The Terms that stand behind 2 and 3 in the document: each sentence at its boundary, and one beyond it. */
final class LampSentences {
    private LampSentences() {
    }

    static void all() {
        hoursOfADay();
        vasesTaken();
        light();
        daysShown();
        steps();
        bumps();
        behindAStep();
        seenBySteps();
        trimAndFill();
        undo();
        judged();
        shortest();
        cover();
        said();
        ask();
        meet();
        never();
        chance();
        pass();
        best();
        lonely();
        crowd();
        alibi();
        follows();
        blot();
        gap();
        same();
        wavers();
        reach();
        census();
        choose();
        exposed();
        would();
        lamps();
        draws();
        marks();
    }

    private static void sentence(String text) {
        Check.sentence(text);
    }

    private static void same(String what, long got, long want) {
        Check.same(what, got, want);
    }

    private static void same(String what, boolean got, boolean want) {
        Check.same(what, got, want);
    }

    private static LanternHall hall(String text) {
        return Check.hall(text);
    }

    private static LanternHall rested(LanternHall x, int steps) {
        for (int i = 0; i < steps; i++) {
            x.step(0);
        }
        return x;
    }

    private static void hoursOfADay() {
        sentence("At an hour (0 to 7) of its day a VISITOR is in the CELL that is told for it;");
        LanternHall x = hall("visitor a plain on 2 goes 7 6 5 4 3 2 1 0;");
        for (int hour = 0; hour < 8; hour++) {
            same("hour " + hour, x.at(0, hour), 7 - hour);
        }
        same("before", x.at(0, -1), -1);
        same("behind", x.at(0, 8), -1);
        sentence("behind the last one told a lady stays there, others are gone.");
        String[] kinds = {"plain", "child", "lady", "thief"};
        for (int kind = 0; kind < 4; kind++) {
            for (int told = 1; told <= 8; told++) {
                LanternHall y = hall("visitor a " + kinds[kind] + " on 0 goes " + "3 ".repeat(told - 1) + "5;");
                for (int hour = 0; hour < 8; hour++) {
                    int behind = kind == 2 ? 5 : -1;
                    same(kinds[kind] + " of " + told + " at " + hour, y.at(0, hour),
                            hour < told - 1 ? 3 : hour == told - 1 ? 5 : behind);
                }
            }
        }
        same("a lady beyond the last CELL", hall("cells 5; visitor a lady on 0 goes 4 5;").at(0, 2), -1);
        same("a lady in the last CELL", hall("cells 5; visitor a lady on 0 goes 5 4;").at(0, 2), 4);
    }

    private static void vasesTaken() {
        sentence("A VASE is TAKEN on a day at the first hour at which a thief of that day is in its CELL (of some the"
                + " first);");
        LanternHall x = hall("vase v at 3; visitor a thief on 0 goes 1 2 3 3 3; visitor b thief on 0 goes 3 2 3;"
                + "visitor c thief on 1 goes 0 0 0 0 0 0 0 3; visitor d lady on 2 goes 3; visitor e plain on 2 goes 3;"
                + "visitor f child on 2 goes 3;");
        same("hour 0", x.taken(0, 0, 0), 0);
        same("by b", x.taken(0, 0, 1), 1);
        same("hour 7", x.taken(0, 1, 0), 7);
        same("by c", x.taken(0, 1, 1), 2);
        same("by nobody", x.taken(0, 2, 0), -1);
        same("on an empty day", x.taken(0, 3, 0), -1);
        LanternHall y = hall("vase v at 3; visitor a thief on 0 goes 1 3; visitor b thief on 0 goes 2 3;");
        same("both at hour 1", y.taken(0, 0, 0), 1);
        same("the first", y.taken(0, 0, 1), 0);
        LanternHall z = hall("vase v at 5; cells 5; visitor a thief on 0 goes 5;");
        same("beyond the last CELL", z.taken(0, 0, 0), -1);
        LanternHall w = hall("vase v at 3; visitor a thief on 0 goes 3;");
        same("of one told hour", w.taken(0, 0, 0), 0);
        sentence("it is there at the hours ahead of that.");
        LanternHall hours = hall("beam 5; vase v at 3; vase w at 4; vase u at 5; visitor a thief on 0 goes 5 4 3;");
        int[] there = {0b011, 0b001, 0, 0, 0, 0, 0, 0, 0b011};
        for (int hour = 0; hour <= 8; hour++) {
            same("hour " + hour, hours.treasures(), there[hour]);
            hours.step(0);
        }
        hours.trim(1);
        same("on another day", hours.treasures(), 7);
        LanternHall last = hall("beam 5; vase v at 3; visitor a thief on 0 goes 0 0 0 0 0 0 0 3;");
        same("hour 6", rested(last, 6).treasures(), 1);
        same("hour 7", rested(last, 1).treasures(), 0);
        same("hour 0", rested(last, 1).treasures(), 1);
    }

    private static void light() {
        sentence("The lamp, if there is oil, LIGHTS each CELL that is no more than the beam off,");
        same("oil 0", hall("oil 0;").light(), 0);
        same("oil 1", hall("oil 1;").light(), 7);
        same("the last oil goes", rested(hall("oil 1;"), 1).light(), 0);
        same("two oil", rested(hall("oil 2;"), 1).light(), 7);
        for (int beam = 1; beam <= 5; beam++) {
            LanternHall x = hall("cells 12; guard 6; beam " + beam + ";");
            for (int cell = 0; cell < 12; cell++) {
                same("beam " + beam + " cell " + cell, x.light() >> cell & 1, Math.abs(cell - 6) <= beam ? 1 : 0);
            }
        }
        same("at the left end", hall("cells 12; beam 5;").light(), 0b111111);
        same("at the right end", hall("cells 12; beam 5; guard 11;").light(), 0b111111000000);
        same("two CELLS", hall("cells 2; beam 5;").light(), 3);
        sentence("if no pillar lies between (that CELL may be one).");
        same("one next to him", hall("cells 7; guard 3; beam 3; pillar 4; pillar 2;").light(), 0b0011100);
        same("two off", hall("cells 7; guard 3; beam 3; pillar 5; pillar 1;").light(), 0b0111110);
        same("at the beam's end", hall("cells 7; guard 3; beam 3; pillar 6; pillar 0;").light(), 0b1111111);
        same("beyond it", hall("cells 7; guard 3; beam 2; pillar 6; pillar 0;").light(), 0b0111110);
        same("his own", hall("cells 7; guard 3; beam 3; pillar 3;").light(), 0b1111111);
        same("two in a row", hall("cells 7; guard 0; beam 5; pillar 2; pillar 3;").light(), 0b0000111);
        same("beyond the last CELL", hall("cells 7; guard 6; beam 5; pillar 7;").light(), 0b1111110);
    }

    private static void daysShown() {
        sentence("A LIT CELL shows the day that the E of shows tells (0 to 3) for it:");
        String[] laws = {"0-9999", "0-1", "0", "1", "2", "3", "4", "9999"};
        int[] days = {0, 0, 0, 1, 2, 3, 3, 3};
        for (int i = 0; i < laws.length; i++) {
            same("shows " + laws[i], hall("shows " + laws[i] + ";").shown(0), days[i]);
        }
        LanternHall x = hall("beam 3; shows far;");
        for (int cell = 0; cell < 8; cell++) {
            same("for it: " + cell, x.shown(cell), cell <= 3 ? cell : -1);
        }
        sentence("VISITORS of that day who are there at the hour are SEEN, VASES that are there too.");
        LanternHall y = hall("beam 3; shows 3 - far; visitor a lady on 3 goes 0; visitor b lady on 2 goes 1;"
                + "visitor c lady on 1 goes 2; visitor d lady on 0 goes 3; visitor e lady on 0 goes 4; visitor f lady on"
                + " 3 goes 1;"
                + "vase v at 0; vase w at 3; vase u at 4;");
        same("to the beam, each of its day", y.sees(), 0b001111);
        same("vases", y.treasures(), 0b011);
        LanternHall z = hall("visitor a plain on 0 goes 1 0; visitor b plain on 3 goes 1; shows 3 * hour;");
        same("a", z.sees(), 1);
        same("neither is there", rested(z, 1).sees(), 0);
        same("above 3 is 3", hall("visitor a lady on 3 goes 1; shows 99;").sees(), 1);
        same("below 0 is 0", hall("visitor a lady on 0 goes 1; shows 0-99;").sees(), 1);
        LanternHall off = hall("guard 4; beam 3; shows far; visitor a thief on 1 goes 3; visitor b thief on 3 goes 7;"
                + "visitor c thief on 0 goes 2; vase v at 3; vase w at 7; vase u at 2; vase t at 4;");
        same("vases by the days that their CELLS show", off.treasures(), 0b1100);
        same("a vase of the day shown", hall("vase v at 1; visitor a thief on 3 goes 1; shows 99;").treasures(), 0);
        same("not of the day trimmed", hall("vase v at 1; visitor a thief on 0 goes 1; shows 99;").treasures(), 1);
        same("in a pillar", hall("pillar 1; visitor a lady on 0 goes 1; visitor b lady on 0 goes 2;").sees(), 1);
        same("without oil", hall("oil 0; visitor a lady on 0 goes 0; vase v at 0;").sees(), 0);
        same("without oil", hall("oil 0; visitor a lady on 0 goes 0; vase v at 0;").treasures(), 0);
    }

    private static int standsBehind(String text, int way) {
        LanternHall x = hall(text);
        x.step(way);
        return x.count(4);
    }

    private static void steps() {
        sentence("STEP: on to the next CELL, back, or rest (none):");
        same("on", standsBehind("guard 3;", 1), 4);
        same("back", standsBehind("guard 3;", -1), 2);
        same("rest", standsBehind("guard 3;", 0), 3);
        sentence("if there is no such CELL, or a pillar is there, he stays;");
        same("back from the second", standsBehind("guard 1;", -1), 0);
        same("back from the first", standsBehind("guard 0;", -1), 0);
        same("on to the last", standsBehind("cells 12; guard 10;", 1), 11);
        same("on from the last", standsBehind("cells 12; guard 11;", 1), 11);
        same("on from the last of two", standsBehind("cells 2; guard 1;", 1), 1);
        same("a pillar on", standsBehind("guard 3; pillar 4;", 1), 3);
        same("a pillar two on", standsBehind("guard 3; pillar 5;", 1), 4);
        same("a pillar back", standsBehind("guard 3; pillar 2;", -1), 3);
        same("out of a pillar", standsBehind("guard 3; pillar 3;", 1), 4);
        same("in the dark too", standsBehind("oil 0; guard 3; pillar 4;", 1), 3);
        LanternHall x = hall("guard 7;");
        same("no bump", x.step(1), 0);
        same("an hour", x.count(5), 1);
        same("a step", x.count(8), 1);
        same("an oil", x.count(7), 29);
        same("it can be undone", x.undo(), true);
    }

    private static void bumps() {
        sentence("if some VISITOR is SEEN there he BUMPS into all of these, and stays (a child counts twice).");
        LanternHall x = hall("guard 3; visitor a plain on 0 goes 4; visitor b lady on 0 goes 4; visitor c thief on 0 goes 4;"
                + "visitor d child on 0 goes 4; visitor e lady on 1 goes 4; visitor f lady on 0 goes 5;");
        same("a, b, c, d twice", x.step(1), 5);
        same("he stays", x.count(4), 3);
        same("bumps", x.count(9), 5);
        same("b", x.step(1), 1);
        same("bumps", x.count(9), 6);
        StringBuilder children = new StringBuilder();
        for (char name = 'a'; name <= 'f'; name++) {
            children.append("visitor ").append(name).append(" child on 0 goes 1;");
        }
        same("six children", hall(children.toString()).step(1), 12);
        same("with the last oil", hall("oil 1; visitor a lady on 0 goes 1;").step(1), 1);
        LanternHall dark = hall("oil 0; visitor a lady on 0 goes 1;");
        same("without oil", dark.step(1), 0);
        same("he goes", dark.count(4), 1);
        LanternHall day = hall("visitor a lady on 1 goes 1; shows far;");
        same("by the day shown there", day.step(1), 1);
        LanternHall other = hall("visitor a lady on 0 goes 1; shows far;");
        same("not by his own CELL's", other.step(1), 0);
        same("he goes", other.count(4), 1);
        LanternHall hour = hall("visitor a plain on 0 goes 2 1; beam 1;");
        same("not by the next hour's", hour.step(1), 0);
        same("he stands where a is", hour.count(4), 1);
        same("a rest beside a", hour.step(0), 0);
        LanternHall pillar = hall("pillar 1; visitor a lady on 0 goes 1;");
        same("in a pillar", pillar.step(1), 0);
        LanternHall two = hall("visitor a lady on 0 goes 2;");
        same("two off", two.step(1), 0);
        same("then one off", two.step(1), 1);
        LanternHall back = hall("guard 3; visitor a child on 0 goes 2;");
        same("back", back.step(-1), 2);
        same("he stays", back.count(4), 3);
    }

    private static void behindAStep() {
        sentence("Then it is the next hour (behind 7: 0), a step more, there is one oil less, if there is some;");
        LanternHall x = hall("oil 9;");
        for (int steps = 1; steps <= 20; steps++) {
            x.step(steps % 3 - 1);
            same("hour behind " + steps, x.count(5), steps % 8);
            same("steps", x.count(8), steps);
            same("oil behind " + steps, x.count(7), Math.max(0, 9 - steps));
        }
        LanternHall bumped = hall("visitor a lady on 0 goes 1;");
        bumped.step(1);
        same("behind a bump too: hour", bumped.count(5), 1);
        same("behind a bump too: steps", bumped.count(8), 1);
        same("behind a bump too: oil", bumped.count(7), 29);
        LanternHall refused = hall("oil 9;");
        same("another way", refused.step(2), -1);
        same("hour", refused.count(5), 0);
        same("steps", refused.count(8), 0);
        same("oil", refused.count(7), 9);
    }

    private static void seenBySteps() {
        sentence("whom he sees then he has SEEN (by steps alone).");
        LanternHall x = hall("oil 9; visitor a lady on 0 goes 0; visitor b plain on 0 goes 1; visitor c lady on 1 goes 1;");
        same("at first nobody", x.count(10), 0);
        x.trim(1);
        x.trim(0);
        x.fill(5);
        same("not by trim, fill", x.count(10), 0);
        x.step(0);
        same("a; b is gone then", x.count(10), 1);
        x.trim(1);
        same("c is seen", x.sees(), 4);
        same("not by trim", x.count(10), 1);
        x.step(0);
        same("c too", x.count(10), 5);
        x.undo();
        same("undone", x.count(10), 1);
        same("c is seen", x.sees(), 4);
        LanternHall far = hall("beam 1; visitor a lady on 0 goes 2; visitor b lady on 0 goes 3;");
        far.step(1);
        same("from where he then stands", far.count(10), 1);
        LanternHall last = hall("oil 1; visitor a lady on 0 goes 1;");
        last.step(0);
        same("no oil then", last.count(10), 0);
        LanternHall two = hall("oil 2; visitor a lady on 0 goes 1;");
        two.step(0);
        same("an oil then", two.count(10), 1);
        LanternHall law = hall("oil 2; visitor a lady on 1 goes 1; shows left = 1;");
        law.step(0);
        same("by the oil then", law.count(10), 1);
        LanternHall hour = hall("visitor a plain on 1 goes 0 1; shows hour;");
        hour.step(0);
        same("by the hour then", hour.count(10), 1);
        LanternHall bump = hall("beam 1; visitor a child on 0 goes 1 1; visitor b lady on 0 goes 2;");
        bump.step(1);
        same("behind a bump from where he stays", bump.count(10), 1);
    }

    private static void trimAndFill() {
        sentence("TRIM to a day: two oil less, if there are two.");
        for (int oil = 0; oil <= 4; oil++) {
            LanternHall x = hall("oil " + oil + ";");
            same("trim with " + oil, x.trim(3), oil < 2 ? -1 : oil - 2);
            same("oil", x.count(7), oil < 2 ? oil : oil - 2);
            same("day", x.count(6), oil < 2 ? 0 : 3);
            same("can be undone", x.count(14), oil < 2 ? 0 : 1);
            same("no hour", x.count(5) + x.count(8), 0);
        }
        LanternHall same = hall("oil 5;");
        same("to the same day", same.trim(0), 3);
        same("can be undone", same.count(14), 1);
        sentence("FILL: so much oil more, 99 at most.");
        same("0 and 1", hall("oil 0;").fill(1), 1);
        same("0 and 99", hall("oil 0;").fill(99), 99);
        same("1 and 98", hall("oil 1;").fill(98), 99);
        same("1 and 97", hall("oil 1;").fill(97), 98);
        same("1 and 99", hall("oil 1;").fill(99), 99);
        LanternHall full = hall("oil 99;");
        same("99 and 1", full.fill(1), 99);
        same("99 and 99", full.fill(99), 99);
        same("these can be undone", full.count(14), 2);
        same("no hour", full.count(5) + full.count(8), 0);
    }

    private static void undo() {
        sentence("UNDO: all of these, the last 16, one by one.");
        LanternHall x = hall("oil 99; cells 12; visitor a child on 0 goes 1 1 1;");
        String[] states = new String[4];
        states[0] = counts(x);
        x.step(1);
        states[1] = counts(x);
        x.trim(2);
        states[2] = counts(x);
        x.fill(50);
        states[3] = counts(x);
        x.step(1);
        for (int i = 3; i >= 0; i--) {
            same("undo", x.undo(), true);
            Check.same("back to " + i, counts(x), states[i]);
        }
        same("no more", x.undo(), false);
        Check.same("nothing", counts(x), states[0]);
        for (int done = 15; done <= 18; done++) {
            LanternHall y = rested(hall("oil 99;"), done);
            same(done + " can be undone", y.count(14), Math.min(16, done));
            int undone = 0;
            while (undone < 20 && y.undo()) {
                undone++;
            }
            same(done + ": undone", undone, Math.min(16, done));
            same(done + ": steps left", y.count(8), Math.max(0, done - 16));
        }
        LanternHall z = rested(hall("oil 99;"), 16);
        z.undo();
        same("15 left", z.count(14), 15);
        rested(z, 2);
        same("16 again", z.count(14), 16);
        for (int i = 0; i < 16; i++) {
            same("undo " + i, z.undo(), true);
        }
        same("none", z.undo(), false);
        same("a step stays", z.count(8), 1);
        LanternHall mixed = hall("oil 50;");
        for (int i = 0; i < 6; i++) {
            mixed.step(1);
            mixed.fill(1);
            mixed.trim(i % 4);
        }
        for (int i = 0; i < 16; i++) {
            same("mixed " + i, mixed.undo(), true);
        }
        same("mixed: none", mixed.undo(), false);
        same("mixed: the first step stays", mixed.count(8), 1);
        same("mixed: and the first fill", mixed.count(7), 50);
    }

    private static String counts(LanternHall x) {
        StringBuilder told = new StringBuilder();
        for (int what = 0; what < 14; what++) {
            told.append(x.count(what)).append(' ');
        }
        return told.toString();
    }

    private static void judge(LanternHall x, String night, int cannot, int bump, int seen) {
        same("night '" + night + "'", Check.tellNight(x, night), 0);
        same("'" + night + "' can't be", x.judged(0), cannot);
        same("'" + night + "' bumps", x.judged(1), bump);
        same("'" + night + "' sees", x.judged(2), seen);
    }

    private static void judged() {
        sentence("JUDGED: the NIGHT from the begin:");
        LanternHall x = hall("cells 4; oil 9; visitor a plain on 0 goes 0 1; visitor b lady on 1 goes 3;");
        same("no NIGHT", x.judged(0), -1);
        same("no NIGHT", x.judged(1), -1);
        same("no NIGHT", x.judged(2), 0);
        x.trim(1);
        rested(x, 7);
        same("b is not seen", x.count(10), 0);
        judge(x, "rest;", -1, -1, 1);
        judge(x, "rest; on;", -1, 1, 1);
        LanternHall back = hall("guard 5; beam 1; visitor a lady on 0 goes 1; visitor b lady on 0 goes 3;"
                + "visitor c lady on 0 goes 7;");
        judge(back, "back;", -1, -1, 0b010);
        judge(back, "back; back;", -1, 1, 0b010);
        judge(back, "on; back;", -1, -1, 0b100);
        judge(back, "on; on;", -1, 1, 0b100);
        judge(back, "back; on; on;", -1, -1, 0b110);
        same("nothing is done", x.count(8), 7);
        sentence("the first line (from 0) that can't be (trim without two oil; the rest always can; lines that can't be"
                + " are left out);");
        LanternHall y = hall("oil 2; visitor a lady on 0 goes 1; visitor b lady on 1 goes 2;");
        judge(y, "trim 1;", -1, -1, 0);
        judge(y, "trim 1; trim 1;", 1, -1, 0);
        judge(y, "rest; trim 1;", 1, -1, 1);
        judge(y, "rest; fill 1; trim 1; fill 9; rest;", -1, -1, 3);
        judge(y, "rest; trim 1; fill 9; rest; trim 1; rest;", 1, -1, 3);
        judge(y, "rest; trim 1; fill 9; rest;", 1, -1, 1);
        judge(y, "rest; rest; rest; on; back; fill 99;", -1, -1, 1);
        judge(y, "back; back; back;", -1, -1, 1);
        judge(y, "rest;rest;trim 0;trim 0;", 2, -1, 1);
        judge(y, "rest;".repeat(39) + "trim 1;", 39, -1, 1);
        sentence("the first line by which he bumps;");
        judge(y, "on;", -1, 0, 1);
        judge(y, "rest; on; on;", -1, 1, 1);
        judge(y, "trim 1; fill 5; on; on; on;", -1, 3, 2);
        judge(y, "fill 99;" + "rest;".repeat(38) + "on;", -1, 39, 1);
        judge(y, "rest; rest; on;", -1, -1, 1);
        sentence("who was SEEN at last, as bits.");
        judge(y, "fill 9; rest; trim 1; rest; rest;", -1, -1, 3);
        judge(y, "fill 9; trim 1; trim 0;", -1, -1, 0);
        LanternHall full = hall("oil 98; visitor a lady on 1 goes 0; shows left = 98;");
        judge(full, "fill 1; rest;", -1, -1, 1);
        judge(full, "fill 99; rest;", -1, -1, 1);
        judge(full, "fill 99; rest; rest; fill 1;", -1, -1, 1);
        judge(full, "rest; rest;", -1, -1, 0);
        LanternHall round = hall("visitor a plain on 0 goes 1;");
        judge(round, "rest;".repeat(7), -1, -1, 0);
        judge(round, "rest;".repeat(8), -1, -1, 1);
        judge(round, "rest;".repeat(8) + "on;", -1, 8, 1);
        judge(round, "rest;".repeat(9) + "on;", -1, -1, 1);
        judge(y, "", -1, -1, 0);
    }

    private static void shortest() {
        sentence("SHORTEST for some VISITORS: the fewest STEPS from now on (of on, back, rest, without a bump) by which"
                + " all these have been SEEN");
        LanternHall x = hall("cells 8; beam 1; guard 3; visitor a lady on 0 goes 0; visitor b lady on 0 goes 7;"
                + "visitor c lady on 0 goes 3; visitor d plain on 0 goes 9 3;");
        same("a", x.shortest(1), 2);
        same("b", x.shortest(2), 3);
        same("c: a rest", x.shortest(4), 1);
        same("d: at the next hour", x.shortest(8), 1);
        same("c and d", x.shortest(12), 1);
        // On to 5, where c bars the way to a; back from 1 c bars the way to b: 0 and 7 can't be seen both.
        same("a and b", x.shortest(3), -1);
        LanternHall y = hall("cells 6; beam 1; guard 2; visitor a lady on 0 goes 0; visitor b lady on 0 goes 5;");
        same("a, then b", y.shortest(3), 4);
        LanternHall bar = hall("beam 1; oil 9; visitor a plain on 0 goes 1 1 1; visitor b lady on 0 goes 3;");
        same("without a bump: a goes first", bar.shortest(2), 5);
        LanternHall round = hall("cells 2; beam 1; oil 99; visitor a plain on 0 goes 1;");
        same("the next hour 0", round.shortest(1), 8);
        same("from now on", rested(round, 5).shortest(1), 3);
        same("from the first CELL alone", hall("beam 1; pillar 1; visitor a lady on 0 goes 0;").shortest(1), 1);
        same("from the last CELL alone", hall("cells 12; guard 11; beam 1; pillar 10; visitor a lady on 0 goes 11;")
                .shortest(1), 1);
        same("out of the last CELL", hall("cells 12; guard 11; beam 1; visitor a lady on 0 goes 0;").shortest(1), 10);
        same("to the last CELL", hall("cells 12; beam 1; visitor a lady on 0 goes 11;").shortest(1), 10);
        same("into the last CELL", hall("cells 12; guard 10; oil 9; visitor a lady on 1 goes 11; shows far = 0;")
                .shortest(1), 1);
        same("a bump by the day shown there", hall("beam 1; oil 9; visitor a plain on 1 goes 1 1; visitor b lady on 0 goes 1;"
                + "shows far;").shortest(2), 3);
        sentence("(who was SEEN counts; at most 40).");
        y.step(-1);
        same("a was SEEN", y.shortest(1), 0);
        same("b then", y.shortest(3), 3);
        same("40", hall("oil 99; visitor a lady on 1 goes 0; shows left = 59;").shortest(1), 40);
        same("39", hall("oil 99; visitor a lady on 1 goes 0; shows left = 60;").shortest(1), 39);
        same("41", hall("oil 99; visitor a lady on 1 goes 0; shows left = 58;").shortest(1), -1);
        LanternHall later = hall("oil 99; visitor a lady on 1 goes 0; shows left = 58;");
        later.step(0);
        same("40 from then on", later.shortest(1), 40);
    }

    private static void cover() {
        sentence("COVER: the fewest CELLS without pillars from which, the lamp being lit, all CELLS are LIT, together;");
        same("one of 3", hall("cells 3; beam 1;").cover(), 0b010);
        // 0 and 2, 0 and 3, 1 and 2, 1 and 3 light all: the least is 0 and 2.
        same("two of 4", hall("cells 4; beam 1;").cover(), 0b0101);
        same("one of 11", hall("cells 11; beam 5;").cover(), 1 << 5);
        same("two of 12", hall("cells 12; beam 5;").cover(), 1 << 0 | 1 << 6);
        same("four of 12", hall("cells 12; beam 1;").cover(), 1 << 1 | 1 << 4 | 1 << 7 | 1 << 10);
        same("not the pillar's own", hall("cells 3; beam 1; pillar 1;").cover(), 0b101);
        same("without oil", hall("cells 3; beam 1; oil 0;").cover(), 0b010);
        same("behind a pillar", hall("cells 4; beam 3; pillar 1;").cover(), 0b0101);
        same("two pillars at the begin", hall("cells 4; beam 3; pillar 0; pillar 1;").cover(), -1);
        same("three pillars in a row", hall("cells 5; beam 5; pillar 1; pillar 2; pillar 3;").cover(), -1);
        same("two pillars in a row", hall("cells 4; beam 5; pillar 1; pillar 2;").cover(), 0b1001);
        sentence("of equal ones the least set (bits).");
        same("each of 2", hall("cells 2; beam 1;").cover(), 1);
        same("each of 6", hall("cells 6; beam 5;").cover(), 1);
        same("three of 7", hall("cells 7; beam 5;").cover(), 1 << 1);
    }

    private static void said() {
        sentence("SAID: that on an unknown day at an hour somebody, or nobody, was in a CELL; 8 at most.");
        LanternHall x = hall("visitor a lady on 0 goes 7;");
        for (int i = 1; i <= 8; i++) {
            same("say " + i, x.say(i - 1, 7, i % 2 == 0), true);
            same("SAID", x.count(13), i);
        }
        same("a ninth", x.say(0, 0, false), false);
        same("SAID", x.count(13), 8);
        same("the same again is another one", saidTwice(), 2);
        sentence("DAYS (bits) by which all SAID is so.");
        LanternHall y = hall("visitor a plain on 0 goes 1 2; visitor b plain on 1 goes 1 3; visitor c plain on 3 goes 2 2;");
        same("nothing SAID", y.days(), 15);
        y.say(0, 1, true);
        same("0, 1", y.days(), 0b0011);
        y.say(1, 2, true);
        same("0", y.days(), 0b0001);
        y.say(1, 2, false);
        same("none", y.days(), 0);
        LanternHall z = hall("visitor a plain on 0 goes 1 2; visitor b plain on 1 goes 1 3; visitor c plain on 3 goes 2 2;");
        z.say(1, 2, false);
        same("nobody there on 1, 2", z.days(), 0b0110);
        z.say(7, 7, false);
        same("the last hour and CELL", z.days(), 0b0110);
        z.say(7, 7, true);
        same("nobody at all", z.days(), 0);
    }

    private static int saidTwice() {
        LanternHall x = new LanternHall();
        x.say(0, 0, false);
        x.say(0, 0, false);
        return x.count(13);
    }

    private static void ask() {
        sentence("ASK: the hour and CELL by which the greater number of these, with somebody there or nobody, is the"
                + " least, if that is less than all;");
        LanternHall x = hall("cells 12; visitor a plain on 0 goes 1 1 11; visitor b plain on 1 goes 1 2 11;"
                + "visitor c plain on 2 goes 1 3;");
        // At hour 0 CELL 1 parts three from one; at hour 2 CELL 11 parts two from two.
        same("two and two", x.ask(), 12 * 2 + 11);
        x.say(0, 1, true);
        same("of three one or two: hour 1, CELL 1", x.ask(), 12 + 1);
        x.say(1, 1, false);
        same("of two", x.ask(), 12 + 2);
        x.say(1, 2, true);
        same("one alone", x.ask(), -1);
        x.say(1, 2, false);
        same("no day", x.ask(), -1);
        same("all alike", hall("cells 12;").ask(), -1);
        same("the last hour and CELL", hall("cells 12; visitor a plain on 3 goes 0 0 0 0 0 0 0 11; visitor b lady on 3 goes 0;"
                + "visitor c lady on 0 goes 0; visitor d lady on 1 goes 0; visitor e lady on 2 goes 0;").ask(), 12 * 7 + 11);
        sentence("of equal ones the first by hours, then CELLS.");
        same("hour 0 first", hall("visitor a plain on 0 goes 5 1;").ask(), 5);
        same("the first CELL", hall("visitor a plain on 0 goes 5; visitor b plain on 0 goes 3;").ask(), 3);
        same("a later one that parts better", hall("visitor a plain on 0 goes 5 1; visitor b plain on 1 goes 9 1;").ask(), 13);
    }

    private static void meet() {
        sentence("MEET: in how many hours (0 to 40) some CELL is LIT by him, if he rests, and by the fellow");
        same("at once", hall("cells 12; beam 1; fellow 2;").meet(), 0);
        same("not so near", hall("cells 12; beam 1; fellow 3;").meet(), -1);
        same("in an hour", hall("cells 12; beam 1; fellow 3 2;").meet(), 1);
        same("in seven", hall("cells 12; beam 1; fellow 3 3 3 3 3 3 3 2;").meet(), 7);
        same("both light the pillar between", hall("cells 12; beam 5; pillar 3; fellow 6;").meet(), 0);
        same("two pillars between", hall("cells 12; beam 5; pillar 3; pillar 4; fellow 6;").meet(), -1);
        same("with oil for it", hall("cells 12; beam 1; oil 8; fellow 3 3 3 3 3 3 3 2;").meet(), 7);
        same("his oil is gone", hall("cells 12; beam 1; oil 7; fellow 3 3 3 3 3 3 3 2;").meet(), -1);
        same("the last oil", hall("cells 12; beam 1; oil 1; fellow 2;").meet(), 0);
        same("no oil", hall("cells 12; beam 1; oil 0; fellow 2;").meet(), -1);
        same("99 oil, never", hall("cells 12; beam 1; oil 99; fellow 3;").meet(), -1);
        sentence("(whose lamp is as his, never without oil, at the CELL told for the hour of the night, from 0 on, steps"
                + " counted;");
        LanternHall x = hall("cells 12; beam 1; oil 99; fellow 3 3 3 3 3 2;");
        for (int steps = 0; steps < 14; steps++) {
            same("behind " + steps, x.meet(), steps % 6 <= 5 ? 5 - steps % 6 : 0);
            same("fellow behind " + steps, x.fellow(0), steps % 6 == 5 ? 2 : 3);
            x.step(0);
        }
        LanternHall trimmed = hall("cells 12; beam 1; fellow 3 2;");
        trimmed.trim(1);
        trimmed.fill(1);
        same("steps alone are counted", trimmed.meet(), 1);
        same("never without oil", hall("oil 0; fellow 3; cells 12;").never(), 0b111111000001);
        same("a beam as his", hall("beam 5; fellow 3; cells 12;").never(), 0b111000000000);
        sentence("one beyond the last CELL: there).");
        same("in the last CELL", hall("cells 5; fellow 4;").fellow(0), 4);
        same("one beyond", hall("cells 5; fellow 5;").fellow(0), 4);
        same("far beyond", hall("fellow 11; cells 2;").fellow(0), 1);
        same("they meet there", hall("cells 5; guard 4; beam 1; fellow 11;").meet(), 0);
    }

    private static void never() {
        sentence("NEVER: CELLS that the fellow's lamp never lights.");
        same("by one", hall("cells 9; beam 1; fellow 4;").never(), 0b111000111);
        same("by two", hall("cells 9; beam 1; fellow 4 0;").never(), 0b111000100);
        same("by the eighth too", hall("cells 9; beam 1; fellow 4 4 4 4 4 4 4 8;").never(), 0b001000111);
        same("behind a pillar", hall("cells 9; beam 5; pillar 3; fellow 4;").never(), 0b000000111);
        same("none", hall("cells 3; beam 1; fellow 1;").never(), 0);
        LanternHall x = rested(hall("cells 9; beam 1; fellow 4 0;"), 1);
        same("at all hours, those gone too", x.never(), 0b111000100);
    }

    private static void chance() {
        sentence("CHANCE of a VASE, a day: each VISITOR comes by odds of ten: that it is TAKEN, in millionths, cut.");
        String thieves = "vase v at 1; vase w at 2;";
        int safe = 1000000;
        for (int number = 0; number <= 6; number++) {
            LanternHall x = hall(thieves);
            same(number + " thieves, odds 1", x.chance(0, 0, 1), 1000000 - safe);
            same(number + " thieves, odds 0", x.chance(0, 0, 0), 0);
            same(number + " thieves, odds 10", x.chance(0, 0, 10), number == 0 ? 0 : 1000000);
            same("another vase", x.chance(1, 0, 10), 0);
            same("another day", x.chance(0, 1, 10), 0);
            thieves += "visitor " + (char) ('a' + number) + " thief on 0 goes 3 1;";
            safe = safe / 10 * 9;
        }
        LanternHall y = hall("vase v at 1; visitor a thief on 0 goes 1 1 1; visitor b thief on 0 goes 0 0 0 0 0 0 0 1;"
                + "visitor c lady on 0 goes 1; visitor d thief on 1 goes 1; visitor e thief on 0 goes 2;");
        same("a once, and b, whoever comes first", y.chance(0, 0, 5), 750000);
        same("odds 9", y.chance(0, 0, 9), 990000);
        same("d", y.chance(0, 1, 9), 900000);
        same("a vase that is not there", hall("cells 5; vase v at 5; visitor a thief on 0 goes 5;").chance(0, 0, 10), 0);
    }

    private static void pass() {
        sentence("PASS of two VISITORS: the first hour at which both are in one CELL of one day (both of it).");
        LanternHall x = hall("cells 5; visitor a plain on 0 goes 0 1 2 3 4 4 4 4; visitor b lady on 0 goes 4 4 2 3;"
                + "visitor c lady on 1 goes 0; visitor d plain on 0 goes 1 0 0 0 0 0 0 4; visitor e plain on 0 goes 7 7;"
                + "visitor f plain on 0 goes 0;");
        same("at hour 2, the first", x.pass(0, 1), 2);
        same("the other way", x.pass(1, 0), 2);
        same("of other days", x.pass(0, 2), -1);
        same("at hour 7", x.pass(0, 3), 7);
        same("at hour 0", x.pass(0, 5), 0);
        same("both gone is no CELL", x.pass(4, 5), -1);
        same("never", x.pass(1, 3), -1);
        same("beyond the last CELL", hall("cells 5; visitor a lady on 0 goes 5; visitor b lady on 0 goes 5;").pass(0, 1), -1);
    }

    private static void best() {
        sentence("BEST: the CELL without a pillar from which, now, the most VISITORS would be SEEN with this oil, day,"
                + " hour; of equal ones the first.");
        LanternHall x = hall("cells 12; beam 1; visitor a plain on 0 goes 5 0; visitor b plain on 0 goes 7 11;"
                + "visitor c lady on 1 goes 9 10; visitor d lady on 0 goes 11;");
        same("between a and b", x.best(), 6);
        x.step(0);
        same("at hour 1, b and d", x.best(), 10);
        x.trim(1);
        same("day 1", x.best(), 9);
        same("with this oil", hall("oil 5; visitor a lady on 2 goes 7; visitor b lady on 0 goes 0; visitor c lady on 2 goes 6;"
                + "shows (left = 5) * 2;").best(), 5);
        same("5, 6, 7 see two", hall("cells 12; beam 1; visitor a lady on 0 goes 6; visitor b lady on 0 goes 2;"
                + "visitor c lady on 0 goes 6;").best(), 5);
        same("nobody", hall("cells 12; guard 4;").best(), 0);
        same("pillars in the first", hall("cells 12; pillar 0; pillar 1;").best(), 2);
        same("a pillar is no place", hall("cells 9; beam 1; pillar 4; visitor a lady on 0 goes 3; visitor b lady on 0 goes 5;"
                + "visitor c lady on 0 goes 6;").best(), 5);
        same("the last CELL", hall("cells 12; beam 1; pillar 10; visitor a lady on 0 goes 11;").best(), 11);
    }

    private static void lonely() {
        sentence("LONELY: the hour at which the fewest VISITORS of a day are there; of equal ones the first.");
        LanternHall x = hall("cells 5; visitor a plain on 1 goes 1 1 1 1 1 1 1 1; visitor b plain on 1 goes 1 1 1 1 1 1 1;"
                + "visitor c lady on 2 goes 5 5 5 1; visitor d lady on 2 goes 0; visitor e plain on 3 goes 0 0 5 0 0 0 0 0;"
                + "visitor f plain on 0 goes 5 1 1 1 1 1 1 1;");
        same("hour 7", x.lonely(1), 7);
        same("hour 2", x.lonely(3), 2);
        same("hour 0", x.lonely(0), 0);
        same("of equal ones the first", x.lonely(2), 0);
        same("nobody at all", hall("").lonely(3), 0);
        StringBuilder six = new StringBuilder("visitor a plain on 2 goes 1 1 1 1 9 1 1 1;");
        for (char name = 'b'; name <= 'f'; name++) {
            six.append("visitor ").append(name).append(" lady on 2 goes 1;");
        }
        same("five of six", hall(six.toString()).lonely(2), 4);
    }

    private static void crowd() {
        sentence("CROWD: the most VISITORS of one day in one CELL at one hour.");
        String all = "";
        for (int number = 0; number <= 6; number++) {
            same(number + " in one", hall(all).crowd(1), number);
            same("another day", hall(all).crowd(0), 0);
            all += "visitor " + (char) ('a' + number) + " plain on 1 goes 0 0 0 0 0 0 0 7;";
        }
        same("not of two hours", hall("visitor a plain on 0 goes 1 2; visitor b plain on 0 goes 2 1;").crowd(0), 1);
        same("not of two days", hall("visitor a plain on 0 goes 1; visitor b plain on 1 goes 1;").crowd(0), 1);
        same("not beyond", hall("cells 5; visitor a plain on 0 goes 5; visitor b plain on 0 goes 5;").crowd(0), 0);
        same("in the first CELL", hall("visitor a plain on 0 goes 0; visitor b plain on 0 goes 0;").crowd(0), 2);
        same("in the last CELL", hall("visitor a plain on 0 goes 7; visitor b plain on 0 goes 7;").crowd(0), 2);
    }

    private static void alibi() {
        sentence("ALIBI of a VISITOR for a CELL: hours of his day at which he is in the hall, and not there (bits).");
        LanternHall x = hall("cells 5; visitor a plain on 3 goes 0 4 5 4 0; visitor b lady on 0 goes 1;");
        same("a, 0", x.alibi(0, 0), 0b01010);
        same("a, 4", x.alibi(0, 4), 0b10001);
        same("a, 2", x.alibi(0, 2), 0b11011);
        same("b, 1", x.alibi(1, 1), 0);
        same("b, 0", x.alibi(1, 0), 255);
    }

    private static void follows() {
        sentence("FOLLOWS: hours at which a VISITOR is in the CELL in which another one of his day was the hour ahead"
                + " (bits).");
        LanternHall x = hall("cells 5; visitor a plain on 0 goes 1 2 3 4 3 2 1 0; visitor b plain on 0 goes 0 1 2 3 4 3 2 1;"
                + "visitor c lady on 0 goes 0; visitor d plain on 0 goes 5 5 5; visitor e plain on 0 goes 5 5 5;"
                + "visitor f lady on 1 goes 0;");
        same("b behind a, hours 1 to 7", x.follows(1, 0), 0b11111110);
        same("a behind b: 4, 3 at hour 4 at 3", x.follows(0, 1), 0b00010000);
        same("c behind b: hour 1", x.follows(2, 1), 0b00000010);
        same("b behind c: never", x.follows(1, 2), 0);
        same("a behind c: hour 7", x.follows(0, 2), 0b10000000);
        same("beyond the last CELL", x.follows(3, 4), 0);
        same("not of one day", x.follows(2, 5), -1);
        same("hour 0 has none ahead", hall("visitor a lady on 0 goes 3; visitor b lady on 0 goes 3;").follows(0, 1), 254);
    }

    private static void blot() {
        sentence("BLOT: the CELL without a pillar in which a pillar more would hide the most VISITORS who are seen now;"
                + " of equal ones the first.");
        LanternHall x = hall("cells 12; beam 5; guard 5; visitor a lady on 0 goes 0; visitor b lady on 0 goes 8;"
                + "visitor c lady on 0 goes 10; visitor d lady on 0 goes 11;");
        same("6 hides b and c", x.blot(), 6);
        same("the first that hides b", hall("cells 12; beam 5; guard 5; visitor a lady on 0 goes 8;").blot(), 6);
        same("the one next to her hides too", hall("cells 12; beam 5; guard 5; pillar 6; visitor a lady on 0 goes 3;").blot(), 4);
        same("one beyond her does not", hall("cells 12; beam 5; guard 5; visitor a lady on 0 goes 4;").blot(), 0);
        same("nor his own CELL", hall("cells 12; beam 5; guard 0; visitor a lady on 0 goes 2;").blot(), 1);
        same("nor hers", hall("cells 12; beam 5; guard 0; visitor a lady on 0 goes 1;").blot(), 0);
        same("who is hidden already", hall("cells 12; beam 5; guard 5; pillar 7; visitor a lady on 0 goes 8;").blot(), 0);
        same("not all seen: beyond the beam", hall("cells 12; beam 2; guard 5; visitor a lady on 0 goes 9;").blot(), 0);
        same("without oil the first", hall("oil 0; pillar 0; visitor a lady on 0 goes 2;").blot(), 1);
        StringBuilder five = new StringBuilder();
        for (char name = 'a'; name <= 'e'; name++) {
            five.append("visitor ").append(name).append(" lady on 0 goes 0;");
        }
        same("of six none", hall(five + "visitor f lady on 0 goes 0;").blot(), 0);
        same("of six one", hall(five + "visitor f lady on 0 goes 2;").blot(), 1);
        same("of six all", hall("guard 2;" + five + "visitor f lady on 0 goes 0;").blot(), 1);
        same("the last CELL alone", hall("cells 3; pillar 0; pillar 1;").blot(), 2);
        same("all have pillars", hall("cells 3; pillar 0; pillar 1; pillar 2;").blot(), -1);
    }

    private static void gap() {
        sentence("GAP: of a day, the CELLS in which nobody ever is (bits).");
        LanternHall x = hall("cells 5; visitor a plain on 1 goes 0 0 0 0 0 0 0 4; visitor b lady on 2 goes 5 3;"
                + "visitor c plain on 3 goes 0 1 2 3 4; visitor d plain on 3 goes 5;");
        same("empty day", x.gap(0), 0b11111);
        same("but 0 and 4", x.gap(1), 0b01110);
        same("but 3", x.gap(2), 0b10111);
        same("none", x.gap(3), 0);
        same("twelve CELLS", hall("cells 12;").gap(0), 4095);
        same("two", hall("cells 2;").gap(0), 3);
    }

    private static void same() {
        sentence("SAME: pairs of days with somebody, or nobody, in the same CELLS at all hours, how many.");
        same("all", hall("").same(), 6);
        same("three", hall("visitor a plain on 0 goes 1;").same(), 3);
        same("one and one", hall("visitor a plain on 0 goes 1; visitor b plain on 3 goes 1;").same(), 2);
        same("one", hall("visitor a plain on 0 goes 1; visitor b plain on 3 goes 2;").same(), 1);
        same("none", hall("visitor a plain on 0 goes 1; visitor b plain on 3 goes 2; visitor c plain on 2 goes 3;").same(), 0);
        same("at the last hour", hall("visitor a lady on 0 goes 1; visitor b plain on 1 goes 1 1 1 1 1 1 1;").same(), 1);
        same("till the last hour", hall("visitor a lady on 0 goes 1; visitor b plain on 1 goes 1 1 1 1 1 1 1 1;").same(), 2);
        same("two as one", hall("visitor a plain on 0 goes 1 2; visitor b plain on 0 goes 2 1; visitor c plain on 1 goes 1 1;"
                + "visitor d child on 1 goes 2 2; visitor e thief on 1 goes 2 1;").same(), 2);
        same("beyond is nobody", hall("cells 4; visitor a plain on 0 goes 4; visitor b plain on 1 goes 5;").same(), 6);
    }

    private static int waversOf(String goes) {
        return hall("cells 5; visitor a plain on 0 goes " + goes + ";").wavers(0);
    }

    private static void wavers() {
        sentence("WAVERS of a VISITOR: how often, from an hour to the next one, in the hall at both, he goes the other"
                + " way than he went last (staying does not count).");
        same("one hour", waversOf("1"), 0);
        same("two hours", waversOf("1 2"), 0);
        same("there and back", waversOf("1 2 1"), 1);
        same("back and there", waversOf("2 1 2"), 1);
        same("the most", waversOf("1 2 1 2 1 2 1 2"), 6);
        same("on and on", waversOf("0 1 2 3 4"), 0);
        same("far ways too", waversOf("0 4 0 4"), 2);
        same("staying between", waversOf("1 2 2 2 2 2 2 1"), 1);
        same("staying", waversOf("1 1 1 1 1 1 1 1"), 0);
        same("out of the hall: no way", waversOf("1 2 5 1"), 0);
        same("coming in again, then the other way", waversOf("1 2 5 2 1"), 1);
        same("coming in again, then the same way", waversOf("1 2 5 1 2"), 0);
        same("beginning beyond", waversOf("5 4 3 4"), 1);
        same("a lady stays", hall("visitor a lady on 0 goes 1 2 1;").wavers(0), 1);
    }

    private static void reach() {
        sentence("REACH of a CELL: the fewest STEPS (at most 40) from now on, without a bump, behind which he stands in"
                + " it.");
        LanternHall x = hall("cells 12; guard 5; visitor a plain on 0 goes 6 6; visitor b lady on 1 goes 4; pillar 2;");
        same("here", x.reach(5), 0);
        same("back", x.reach(4), 1);
        same("at the pillar", x.reach(3), 2);
        same("the pillar", x.reach(2), -1);
        same("behind it", x.reach(1), -1);
        same("a goes at hour 2", x.reach(6), 3);
        same("the last", x.reach(11), 8);
        x.step(0);
        same("from now on", x.reach(6), 2);
        same("the longest way", hall("cells 12;").reach(11), 11);
        same("40", hall("oil 39; visitor a lady on 0 goes 1;").reach(1), 40);
        same("39", hall("oil 38; visitor a lady on 0 goes 1;").reach(1), 39);
        same("41", hall("oil 40; visitor a lady on 0 goes 1;").reach(1), -1);
        LanternHall later = hall("oil 40; visitor a lady on 0 goes 1;");
        later.step(0);
        same("40 from then on", later.reach(1), 40);
        same("no oil, no bump", hall("oil 0; visitor a lady on 0 goes 1;").reach(1), 1);
        same("by the day shown there", hall("oil 9; visitor a lady on 1 goes 1; shows far;").reach(1), 10);
        same("not by his own CELL's", hall("visitor a lady on 0 goes 1; shows far;").reach(1), 1);
        same("nor the next but one's", hall("visitor a lady on 2 goes 1; shows far;").reach(1), 1);
    }

    private static void census() {
        sentence("CENSUS of a day at an hour: VISITORS who are there (bits).");
        LanternHall x = hall("cells 5; visitor a plain on 0 goes 0; visitor b lady on 0 goes 5 4; visitor c lady on 3 goes 0;"
                + "visitor d plain on 3 goes 5; visitor e thief on 0 goes 1 1 1 1 1 1 1 1; visitor f child on 0 goes 4 4;");
        same("day 0, hour 0", x.census(0, 0), 0b110001);
        same("day 0, hour 1", x.census(0, 1), 0b110010);
        same("day 0, hour 7", x.census(0, 7), 0b010010);
        same("day 3, hour 0", x.census(3, 0), 0b000100);
        same("day 1", x.census(1, 0), 0);
    }

    private static void choose() {
        sentence("CHOOSE: the day to which to TRIM now, if it can be, so that the most VISITORS are seen then (two oil"
                + " less); of equal ones the first.");
        String four = "visitor a lady on 1 goes 1; visitor b lady on 3 goes 1; visitor c lady on 3 goes 2;";
        same("day 3", hall(four).choose(), 3);
        same("with two oil it is dark then", hall("oil 2;" + four).choose(), 0);
        same("with three it is not", hall("oil 3;" + four).choose(), 3);
        same("with one it can't be", hall("oil 1;" + four).choose(), -1);
        same("with none", hall("oil 0;" + four).choose(), -1);
        same("of equal ones the first", hall("visitor a lady on 1 goes 1; visitor b lady on 2 goes 1;").choose(), 1);
        same("nobody: the first", hall("").choose(), 0);
        same("by the oil then", hall("oil 9; visitor a lady on 2 goes 1; shows day * (left = 7);").choose(), 2);
        LanternHall x = hall(four);
        x.trim(3);
        same("the day it is", x.choose(), 3);
    }

    private static void exposed() {
        sentence("EXPOSED: hours of its day at which a VISITOR stands where he LIGHTS from his CELL, were there oil"
                + " (bits).");
        String goes = "cells 12; guard 5; beam 2; pillar 6; visitor a plain on 3 goes 2 3 4 5 6 7 11 3; visitor b lady on 0 goes 2 7;"
                + "visitor c lady on 1 goes 5;";
        for (String oil : new String[] {"", "oil 0;", "oil 1;"}) {
            LanternHall x = hall(oil + goes);
            same("a", x.exposed(0), 0b10011110);
            same("b", x.exposed(1), 0);
            same("c", x.exposed(2), 255);
        }
        LanternHall y = hall("cells 12; beam 1; visitor a plain on 0 goes 2;");
        same("from 0", y.exposed(0), 0);
        y.step(1);
        same("from 1", y.exposed(0), 1);
    }

    private static void would() {
        sentence("WOULD: bumps of a STEP now.");
        LanternHall x = hall("guard 3; visitor a child on 0 goes 4; visitor b plain on 0 goes 4; visitor c plain on 0 goes 2;");
        String before = counts(x);
        same("on", x.would(1), 3);
        same("back", x.would(-1), 1);
        same("rest", x.would(0), 0);
        Check.same("nothing is done", counts(x), before);
        same("nothing can be undone", x.undo(), false);
        for (int way = -1; way <= 1; way++) {
            LanternHall y = hall("guard 3; visitor a child on 0 goes 4; visitor b plain on 0 goes 4; visitor c plain on 0 goes 2;");
            same("as the STEP " + way, y.step(way), x.would(way));
        }
        same("no such CELL", hall("visitor a lady on 0 goes 0;").would(-1), 0);
    }

    /** By hand: both save rests as one who shines alone loses; both shine rests if both is not below gets. */
    private static void lamps() {
        sentence("LAMPS of two: each shines or saves: both shine: each gets so much (0 to 9); one does: he loses so much"
                + " (0 to 9), the other one gets so much (0 to 9); both save: nothing:"
                + " RESTS: by which neither would get more by the other.");
        LanternHall x = new LanternHall();
        rests(x, 0, 0, 0, 0, 1, 2, 3);
        rests(x, 0, 1, 0, 0, 3);
        rests(x, 0, 0, 1, 0, 1, 2);
        rests(x, 0, 1, 1, 0);
        rests(x, 1, 0, 0, 0, 3);
        rests(x, 9, 9, 9, 0, 3);
        rests(x, 9, 9, 8, 0, 3);
        rests(x, 8, 9, 9, 0);
        rests(x, 8, 0, 9, 0, 1, 2);
        rests(x, 9, 0, 9, 0, 1, 2, 3);
        rests(x, 9, 0, 8, 0, 3);
    }

    private static void rests(LanternHall x, int both, int loses, int gets, int... want) {
        String told = "rests " + both + " " + loses + " " + gets;
        same(told, Check.rests(x, both, loses, gets, -1), want.length);
        for (int i = 0; i < want.length; i++) {
            same(told + " the " + i, Check.rests(x, both, loses, gets, i), want[i]);
        }
        same(told + " none such", Check.rests(x, both, loses, gets, want.length), Check.THREW);
    }

    private static void draws() {
        sentence("A DRAW below m: g becomes (g * 1103515245 + 12345) modulo 2147483648 (g is the SEED at first); it is g"
                + " / 65536, cut, modulo m."
                + " NIGHTS by a SEED of so many steps (1 to 99), from now on (all is as ahead then): each: a DRAW below"
                + " 8: 0 to 2 on, 3 to 5 back, 6 a rest, 7 a DRAW below 4: TRIM to that day, if it can be, then a rest:"
                + " who is SEEN at last, as bits; bumps by these; oil at last.");
        int[] seeds = {0, 1, 2, 5000, 9998, 9999};
        int[] lengths = {1, 2, 98, 99};
        for (int seed : seeds) {
            for (int steps : lengths) {
                byDraws(seed, steps, 60);
            }
        }
        // The SEED 1 trims at its twelfth step: with each oil that may be left then, none, one, two and more.
        for (int oil = 9; oil <= 16; oil++) {
            byDraws(1, 11, oil);
            byDraws(1, 12, oil);
            byDraws(1, 13, oil);
        }
    }

    /** The same night by hand, on an object of its own. */
    private static void byDraws(int seed, int steps, int oil) {
        String text = "cells 6; oil " + oil + "; guard 2; visitor a child on 0 goes 3 1 4; visitor b lady on 1 goes 0;"
                + "visitor c plain on 2 goes 1 2 3 4 5 4 3 2; visitor d thief on 3 goes 5 4 3 2 1 0;";
        LanternHall x = hall(text);
        LanternHall hand = hall(text);
        x.step(1);
        hand.step(1);
        int ahead = hand.count(9);
        BigInteger g = BigInteger.valueOf(seed);
        for (int i = 0; i < steps; i++) {
            g = drawn(g);
            int act = g.intValueExact() / 65536 % 8;
            if (act == 7) {
                g = drawn(g);
                hand.trim(g.intValueExact() / 65536 % 4);
            }
            hand.step(act <= 2 ? 1 : act <= 5 ? -1 : 0);
        }
        String told = "seed " + seed + ", " + steps + " steps, " + oil + " oil: ";
        String before = counts(x);
        same(told + "SEEN", x.nights(seed, steps, 0), hand.count(10));
        same(told + "bumps", x.nights(seed, steps, 1), hand.count(9) - ahead);
        same(told + "oil", x.nights(seed, steps, 2), hand.count(7));
        Check.same(told + "all is as ahead", counts(x), before);
        same(told + "one can be undone", x.count(14), 1);
    }

    private static BigInteger drawn(BigInteger g) {
        return g.multiply(BigInteger.valueOf(1103515245)).add(BigInteger.valueOf(12345)).mod(BigInteger.valueOf(2147483648L));
    }

    private static void marks() {
        sentence("MARKS 0 to 3 hold all that UNDO brings back, what is SAID");
        LanternHall x = hall("oil 50; visitor a child on 0 goes 1 1; visitor b lady on 1 goes 1;");
        for (int mark = 0; mark < 4; mark++) {
            same("nothing is on " + mark, x.mark(mark, true), false);
        }
        String[] states = new String[4];
        int[] days = new int[4];
        for (int mark = 0; mark < 4; mark++) {
            x.step(1);
            x.trim(mark);
            x.fill(1);
            x.say(mark, 1, mark < 2);
            states[mark] = counts(x);
            days[mark] = x.days();
            same("laid " + mark, x.mark(mark, false), true);
        }
        for (int mark = 3; mark >= 0; mark--) {
            same("gone back to " + mark, x.mark(mark, true), true);
            Check.same("as it was " + mark, counts(x), states[mark]);
            same("DAYS " + mark, x.days(), days[mark]);
        }
        same("on again", x.mark(3, true), true);
        Check.same("as it was", counts(x), states[3]);
        same("a NIGHT is told", Check.tellNight(x, "on;"), 0);
        same("gone back", x.mark(0, true), true);
        same("the NIGHT stays", x.count(12), 1);
        same("SAID from there on", x.count(13), 1);
        sentence("(nothing can be undone when one is gone back to).");
        LanternHall y = hall("");
        y.step(1);
        y.mark(2, false);
        same("laying one keeps what can be undone", y.count(14), 1);
        y.step(1);
        same("two", y.count(14), 2);
        y.mark(2, true);
        same("none", y.count(14), 0);
        same("none", y.undo(), false);
        same("where it was", y.count(4), 1);
        y.step(1);
        same("one", y.count(14), 1);
        same("undone", y.undo(), true);
        same("where it was", y.count(4), 1);
        same("no further", y.undo(), false);
        y.step(1);
        same("a MARK that is not there", y.mark(1, true), false);
        same("changes nothing", y.count(14), 1);
    }
}
