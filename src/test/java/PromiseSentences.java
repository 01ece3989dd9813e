/** The promises 1 to 45 one by one: what each takes at its boundary, what is "others" one beyond it, and what NONE means. */
final class PromiseSentences {
    private static final int[] FAR = {Integer.MIN_VALUE, Integer.MIN_VALUE + 1, -1000, -3, 1000, 1 << 30, Integer.MAX_VALUE};
    private static final String HALL = "cells 7; pillar 5; beam 2; oil 40; guard 3; fellow 6 6 1;"
            + "visitor a plain on 0 goes 4 4 1; visitor b child on 0 goes 2 1; visitor c lady on 1 goes 6 4;"
            + "visitor d thief on 2 goes 0 1 2 3 4; visitor e thief on 3 goes 4; vase v at 4; vase w at 1; vase u at 9;";

    private PromiseSentences() {
    }

    static void all() {
        newObject();
        feed();
        hallAndNight();
        visitor();
        at();
        vase();
        lit();
        seen();
        step();
        trim();
        fill();
        undo();
        judged();
        shortest();
        cover();
        say();
        daysAndAsk();
        meetAndNever();
        taken();
        chance();
        pass();
        best();
        byDay();
        alibi();
        follows();
        blotAndSame();
        wavers();
        reach();
        census();
        choose();
        fellow();
        exposed();
        would();
        rests();
        nights();
        mark();
        count();
        asking();
        refused();
        manyCalls();
    }

    private static void sentence(String text) {
        Check.sentence(text);
    }

    private static void same(String what, long got, long want) {
        Check.same(what, got, want);
    }

    private static void same(String what, boolean got, boolean want) {
        Check.same(what, got, want);
    }

    private static LanternHall hall(String text) {
        return Check.hall(text);
    }

    private static void newObject() {
        sentence("8 CELLS, nothing.");
        LanternHall x = new LanternHall();
        int[] counts = {8, 0, 0, 2, 0, 0, 0, 30, 0, 0, 0, 0, 0, 0, 0, 0};
        for (int what = 0; what < counts.length; what++) {
            same("count " + what, x.count(what), counts[what]);
        }
        same("the eighth CELL", x.reach(7), 7);
        same("no ninth", x.reach(8), -1);
        same("no VISITOR", x.visitor(0, 0), -2);
        same("no VASE", x.vase(0, 0), -2);
        same("no fellow", x.fellow(0), -1);
        same("no MARK", x.mark(0, true), false);
        same("nothing to undo", x.undo(), false);
        same("no NIGHT", x.judged(0), -1);
        same("an empty TAPE", x.feed(0, 0, 0), 0);
        sentence("The constants: `NONE = -1`: None.");
        same("NONE", LanternHall.NONE, -1);
    }

    private static void feed() {
        sentence("Up to 24 signs come behind the TAPE: the bytes of a, b, c, of each the highest first;");
        LanternHall x = new LanternHall();
        // "cells 9;" "beam 03;" "guard 7;"
        same("24", x.feed(0x63656C6C7320393BL, 0x6265616D2030333BL, 0x677561726420373BL), 24);
        same("a HALL", x.hall(), 0);
        same("cells", x.count(0), 9);
        same("beam", x.count(3), 3);
        same("guard", x.count(4), 7);
        same("23", x.feed(0x63656C6C7320393BL, 0x6265616D2030333BL, 0x006F696C2037373BL), 23);
        same("behind the TAPE", x.feed(0x20L, 0x7Cfe00L, 0x200000L << 40), 26);
        same("the sign | is at 24", x.hall(), 1 + 16 * 24);
        for (int place = 0; place < 24; place++) {
            long[] bytes = new long[3];
            bytes[place / 8] = 0x3FL << 56 - 8 * (place % 8);
            LanternHall y = new LanternHall();
            same("a sign in byte " + place, y.feed(bytes[0], bytes[1], bytes[2]), 1);
            same("is read", y.hall(), 1);
        }
        sentence("others than 10 and 32 .. 126, and what is beyond 1,000, are left out: how many there are.");
        LanternHall z = new LanternHall();
        same("nothing", z.feed(0, 0, 0), 0);
        same("all ones", z.feed(-1L, -1L, -1L), 0);
        same("9, 11, 31, 127, 128, 138, 160, 254", z.feed(0x090B1F7F808AA0FEL, 0, 0), 0);
        same("10, 32, 126", z.feed(0x0A207E0000000000L, 0, 0), 3);
        same("a low byte below 128 of a negative long", z.feed(0x8000000000000041L, 0, 0), 4);
        same("they are 10, 32, ~, A", z.hall(), 1 + 16 * 2);
        same("1,000", Check.feed(z, " ".repeat(1000)), 1000);
        same("beyond", z.feed(0x4141414141414141L, 0x4141414141414141L, 0x4141414141414141L), 1000);
        same("left out", z.hall(), 0);
        same("990", Check.feed(z, " ".repeat(990)), 990);
        same("10 of 24", z.feed(0x2020202020202020L, 0x2041414141414141L, 0x4141414141414141L), 1000);
        same("the tenth is kept", z.hall(), 1 + 16 * 999);
    }

    private static void hallAndNight() {
        sentence("The TAPE is read as a HALL: 0, or its FAULT (all stays then).");
        LanternHall x = hall(HALL);
        x.step(0);
        String before = Check.state(x);
        int[] faults = {1 + 16 * 13, 3 + 16 * 9, 4 + 16 * 6, 5 + 16 * 48};
        String[] texts = {"cells 5;oil 5", "cells 5; cells 6;", "cells 1;",
            "vase k at 1;vase l at 1;vase m at 1;vase n at 1;vase o at 1;"};
        for (int i = 0; i < texts.length; i++) {
            same(texts[i], Check.tellHall(x, texts[i]), faults[i]);
        }
        Check.same("all stays", Check.state(x), before);
        same("one can be undone still", x.undo(), true);
        same("an empty TAPE", x.hall(), 0);
        same("is a HALL of nothing", x.count(1), 0);
        sentence("The TAPE is read as a NIGHT, likewise.");
        LanternHall y = hall(HALL);
        same("a NIGHT", Check.tellNight(y, "rest; on; trim 1;"), 0);
        before = Check.state(y);
        same("kind 1", Check.tellNight(y, "on; on"), 1 + 16 * 6);
        same("kind 4", Check.tellNight(y, "on; trim 4;"), 4 + 16 * 9);
        same("kind 5", Check.tellNight(y, "on;".repeat(41)), 5 + 16 * 120);
        Check.same("all stays", Check.state(y), before);
        same("an empty TAPE", y.night(), 0);
        same("is a NIGHT of no lines", y.count(12), 0);
    }

    private static void visitor() {
        sentence("Of a VISITOR, what 0: KIND (0 plain, 1 child, 2 lady, 3 thief), 1: the day, 2: the CELL now (NONE:"
                + " none), 3: 1 SEEN, 4: 1 he is seen now; -2: others.");
        LanternHall x = hall(HALL);
        int[][] want = {{0, 0, 4, 0, 1}, {1, 0, 2, 0, 1}, {2, 1, 6, 0, 0}, {3, 2, 0, 0, 0}, {3, 3, 4, 0, 0}};
        for (int i = 0; i < 5; i++) {
            for (int what = 0; what < 5; what++) {
                same("visitor " + i + " " + what, x.visitor(i, what), want[i][what]);
            }
            same("what -1", x.visitor(i, -1), -2);
            same("what 5", x.visitor(i, 5), -2);
        }
        for (int what = -1; what <= 5; what++) {
            same("visitor -1", x.visitor(-1, what), -2);
            same("visitor 5", x.visitor(5, what), -2);
        }
        for (int far : FAR) {
            same("visitor " + far, x.visitor(far, 0), -2);
            same("what " + far, x.visitor(0, far), -2);
        }
        x.step(0);
        same("e is gone", x.visitor(4, 2), -1);
        same("SEEN", x.visitor(0, 3), 1);
        same("b seen now", x.visitor(1, 4), 1);
        x.step(0);
        same("b is gone", x.visitor(1, 2), -1);
        same("b was SEEN", x.visitor(1, 3), 1);
        same("b is not seen now", x.visitor(1, 4), 0);
        LanternHall six = hall("visitor a lady on 0 goes 1;visitor b lady on 0 goes 1;visitor c lady on 0 goes 1;"
                + "visitor d lady on 0 goes 1;visitor e lady on 0 goes 1;visitor f thief on 3 goes 5;");
        same("the sixth", six.visitor(5, 0), 3);
        same("a seventh", six.visitor(6, 0), -2);
    }

    private static void at() {
        sentence("The CELL of a VISITOR at an hour; NONE: others, none.");
        LanternHall x = hall(HALL);
        same("hour 0", x.at(0, 0), 4);
        same("hour 2", x.at(0, 2), 1);
        same("hour 3: none", x.at(0, 3), -1);
        same("hour 7", x.at(2, 7), 4);
        same("hour 8", x.at(2, 8), -1);
        same("hour -1", x.at(2, -1), -1);
        same("the last one", x.at(4, 0), 4);
        same("one beyond", x.at(5, 0), -1);
        same("-1", x.at(-1, 0), -1);
        for (int far : FAR) {
            same("visitor " + far, x.at(far, 0), -1);
            same("hour " + far, x.at(2, far), -1);
        }
        x.step(0);
        same("not by the hour it is", x.at(0, 0), 4);
    }

    private static void vase() {
        sentence("Of a VASE, what 0: the CELL (NONE: it is not there at all), 1: 1 it is seen now; -2: others.");
        LanternHall x = hall(HALL);
        same("v", x.vase(0, 0), 4);
        same("v", x.vase(0, 1), 1);
        same("w", x.vase(1, 0), 1);
        same("w", x.vase(1, 1), 1);
        same("u is not there at all", x.vase(2, 0), -1);
        same("u", x.vase(2, 1), 0);
        same("-1", x.vase(-1, 0), -2);
        same("one beyond", x.vase(3, 0), -2);
        same("what -1", x.vase(0, -1), -2);
        same("what 2", x.vase(0, 2), -2);
        same("u, what 2", x.vase(2, 2), -2);
        for (int far : FAR) {
            same("vase " + far, x.vase(far, 0), -2);
            same("vase " + far, x.vase(far, 1), -2);
            same("what " + far, x.vase(0, far), -2);
        }
        x.trim(3);
        same("taken at once", x.vase(0, 1), 0);
        same("its CELL stays", x.vase(0, 0), 4);
    }

    private static void lit() {
        sentence("CELLS that are LIT, as bits.");
        LanternHall x = hall(HALL);
        same("to the pillar", x.light(), 0b0111110);
        same("none", hall("oil 0;").light(), 0);
        same("eleven at most", hall("cells 12; beam 5; guard 5;").light(), 0b011111111111);
        sentence("The day that a CELL shows; NONE: others, it is not LIT.");
        for (int cell = -1; cell <= 12; cell++) {
            same("shown " + cell, x.shown(cell), cell >= 1 && cell <= 5 ? 0 : -1);
        }
        for (int far : FAR) {
            same("shown " + far, x.shown(far), -1);
        }
        same("32 beyond a lit one", x.shown(35), -1);
        same("without oil", hall("oil 0; shows 2;").shown(0), -1);
        same("with one", hall("oil 1; shows 2;").shown(0), 2);
    }

    private static void seen() {
        sentence("Who is seen now, as bits.");
        LanternHall x = hall(HALL);
        same("a, b", x.sees(), 0b00011);
        x.trim(2);
        same("d at 0 is beyond", x.sees(), 0);
        x.step(0);
        same("d", x.sees(), 0b01000);
        same("the sixth", hall("visitor a lady on 1 goes 1;visitor b lady on 1 goes 1;visitor c lady on 1 goes 1;"
                + "visitor d lady on 1 goes 1;visitor e lady on 1 goes 1;visitor f thief on 0 goes 2;").sees(), 32);
        sentence("VASES that are seen now, as bits.");
        LanternHall y = hall(HALL);
        same("v, w", y.treasures(), 0b011);
        y.trim(3);
        same("v is TAKEN at hour 0", y.treasures(), 0b010);
        y.trim(2);
        y.step(0);
        same("w is TAKEN at hour 1", y.treasures(), 0b001);
        same("four", hall("vase a at 0;vase b at 1;vase c at 2;vase d at 2;").treasures(), 15);
        same("one beyond the beam", hall("vase a at 3;vase b at 2;").treasures(), 2);
    }

    private static void step() {
        sentence("STEP (1 on, 0 rest, -1 back): bumps by it; NONE: others.");
        same("on into a", hall(HALL).step(1), 1);
        same("back into b, twice", hall(HALL).step(-1), 2);
        same("rest", hall(HALL).step(0), 0);
        LanternHall x = hall(HALL);
        String before = Check.state(x);
        same("2", x.step(2), -1);
        same("-2", x.step(-2), -1);
        for (int far : FAR) {
            same("" + far, x.step(far), -1);
        }
        Check.same("nothing is done", Check.state(x), before);
    }

    private static void trim() {
        sentence("TRIM: oil then; NONE: others, it can't be.");
        LanternHall x = hall("oil 9;");
        same("3", x.trim(3), 7);
        same("0", x.trim(0), 5);
        same("4", x.trim(4), -1);
        same("-1", x.trim(-1), -1);
        for (int far : FAR) {
            same("" + far, x.trim(far), -1);
        }
        same("oil", x.count(7), 5);
        same("two can be undone", x.count(14), 2);
        same("2", x.trim(2), 3);
        same("1", x.trim(1), 1);
        same("it can't be", x.trim(3), -1);
        same("the day stays", x.count(6), 1);
        same("the oil stays", x.count(7), 1);
        same("four can be undone", x.count(14), 4);
    }

    private static void fill() {
        sentence("FILL (1 to 99): oil then; NONE: others.");
        LanternHall x = hall("oil 0;");
        same("0", x.fill(0), -1);
        same("-1", x.fill(-1), -1);
        same("100", x.fill(100), -1);
        for (int far : FAR) {
            same("" + far, x.fill(far), -1);
        }
        same("oil", x.count(7), 0);
        same("nothing can be undone", x.count(14), 0);
        same("1", x.fill(1), 1);
        same("99", x.fill(99), 99);
        same("two can be undone", x.count(14), 2);
        x.undo();
        same("99 at most is undone whole", x.count(7), 1);
    }

    private static void undo() {
        sentence("UNDO: true; false: nothing can be.");
        LanternHall x = hall(HALL);
        String before = Check.state(x);
        same("nothing", x.undo(), false);
        x.step(2);
        x.trim(4);
        x.fill(0);
        x.say(0, 0, false);
        same("refused calls and what is SAID are not undone", x.undo(), false);
        same("SAID stays", x.count(13), 1);
        x.step(1);
        same("one", x.undo(), true);
        same("nothing", x.undo(), false);
        same("MARK", x.mark(0, false), true);
        same("a HALL can't be undone", x.undo(), false);
        LanternHall y = hall(HALL);
        y.step(1);
        y.undo();
        Check.same("all is as ahead", Check.state(y), before);
        for (int i = 0; i < 17; i++) {
            y.fill(1);
        }
        for (int i = 0; i < 16; i++) {
            same("of 17 the last 16: " + i, y.undo(), true);
        }
        same("not the first", y.undo(), false);
        same("oil", y.count(7), 41);
    }

    private static void judged() {
        sentence("JUDGED, what 0, 1: lines (NONE: none), 2: bits; -2: others.");
        LanternHall x = hall(HALL);
        for (int round = 0; round < 2; round++) {
            same("0", x.judged(0), -1);
            same("1", x.judged(1), round == 0 ? -1 : 1);
            same("2", x.judged(2), round == 0 ? 0 : 0b00011);
            same("-1", x.judged(-1), -2);
            same("3", x.judged(3), -2);
            for (int far : FAR) {
                same("" + far, x.judged(far), -2);
            }
            same("a NIGHT", Check.tellNight(x, "rest;on;"), 0);
        }
    }

    private static void shortest() {
        sentence("SHORTEST for VISITORS (bits); NONE: others, not by 40.");
        LanternHall x = hall(HALL);
        same("none", x.shortest(0), 0);
        same("a", x.shortest(1), 1);
        same("a, b", x.shortest(3), 1);
        same("c of another day", x.shortest(4), -1);
        same("all five", x.shortest(31), -1);
        same("a sixth", x.shortest(32), -1);
        same("a sixth with a", x.shortest(33), -1);
        same("-1", x.shortest(-1), -1);
        for (int far : FAR) {
            same("" + far, x.shortest(far), -1);
        }
        same("with no VISITOR none", hall("").shortest(0), 0);
        same("with no VISITOR one", hall("").shortest(1), -1);
        StringBuilder six = new StringBuilder();
        for (char name = 'a'; name <= 'f'; name++) {
            six.append("visitor ").append(name).append(" lady on 0 goes 0;");
        }
        same("all six", hall(six.toString()).shortest(63), 1);
        same("a seventh", hall(six.toString()).shortest(64), -1);
        same("without oil", hall("oil 0;" + six).shortest(1), -1);
        same("with the last oil", hall("oil 1;" + six).shortest(1), -1);
        same("with two", hall("oil 2;" + six).shortest(1), 1);
    }

    private static void cover() {
        sentence("COVER, as bits; NONE: by none.");
        same("by one", hall("cells 5; beam 2;").cover(), 0b00100);
        same("of six two", hall("cells 6; beam 2;").cover(), 0b001001);
        same("one CELL without", hall("cells 2; pillar 0;").cover(), 2);
        same("all have pillars", hall("cells 2; pillar 0; pillar 1;").cover(), -1);
        same("one is never lit", hall("cells 3; pillar 0; pillar 1;").cover(), -1);
        same("now is not asked", hall("cells 5; beam 2; oil 0; guard 4;").cover(), 0b00100);
    }

    private static void say() {
        sentence("SAID: true; false: others, 8 there are.");
        LanternHall x = hall("cells 5; visitor a lady on 0 goes 4;");
        same("hour -1", x.say(-1, 0, false), false);
        same("hour 8", x.say(8, 0, false), false);
        same("cell -1", x.say(0, -1, false), false);
        same("cell 5", x.say(0, 5, false), false);
        same("cell 11", x.say(0, 11, false), false);
        for (int far : FAR) {
            same("hour " + far, x.say(far, 0, true), false);
            same("cell " + far, x.say(0, far, true), false);
        }
        same("none", x.count(13), 0);
        same("DAYS", x.days(), 15);
        same("hour 0, cell 0", x.say(0, 0, false), true);
        same("hour 7, cell 4", x.say(7, 4, true), true);
        same("DAYS", x.days(), 1);
        for (int i = 3; i <= 8; i++) {
            same("say " + i, x.say(0, 4, true), true);
        }
        same("a ninth", x.say(0, 4, false), false);
        same("DAYS", x.days(), 1);
        same("eight", x.count(13), 8);
    }

    private static void daysAndAsk() {
        sentence("DAYS, as bits.");
        LanternHall x = hall("cells 12; visitor a lady on 3 goes 11; visitor b lady on 1 goes 10;");
        same("all", x.days(), 15);
        x.say(0, 11, true);
        same("day 3", x.days(), 8);
        x.say(0, 10, true);
        same("none", x.days(), 0);
        sentence("ASK, as 12 * the hour + the CELL; NONE: none parts them.");
        same("no day", x.ask(), -1);
        same("hour 0, CELL 0", hall("visitor a lady on 3 goes 0;").ask(), 0);
        same("hour 1, CELL 0", hall("cells 12; visitor a lady on 3 goes 0; visitor b plain on 0 goes 0;"
                + "visitor c plain on 1 goes 0; visitor d plain on 2 goes 0;").ask(), 12);
        same("all alike", hall("cells 2; visitor a lady on 3 goes 2;").ask(), -1);
        LanternHall y = hall("visitor a lady on 3 goes 0;");
        y.say(0, 0, true);
        same("one day", y.ask(), -1);
        LanternHall z = hall("visitor a lady on 3 goes 0; visitor b lady on 2 goes 0;");
        z.say(0, 0, true);
        same("two days alike", z.ask(), -1);
        LanternHall w = hall("visitor a lady on 3 goes 0; visitor b plain on 2 goes 0 0 0 0 0 0 0;");
        w.say(0, 0, true);
        same("two days, parted at hour 7", w.ask(), 84);
    }

    private static void meetAndNever() {
        sentence("MEET; NONE: there is no fellow, not by 40.");
        same("no fellow", hall("cells 2;").meet(), -1);
        same("with one", hall("cells 2; fellow 1;").meet(), 0);
        same("never near", hall("cells 12; oil 99; beam 1; fellow 3 4 5;").meet(), -1);
        same("in the round's last hour", hall("cells 12; oil 99; beam 1; fellow 9 9 9 9 9 9 9 0;").meet(), 7);
        sentence("NEVER, as bits (without a fellow: all).");
        same("without, eight", hall("").never(), 255);
        same("without, two", hall("cells 2;").never(), 3);
        same("without, twelve", hall("cells 12;").never(), 4095);
        same("with one", hall("cells 12; beam 1; fellow 0;").never(), 4095 & ~3);
    }

    private static void taken() {
        sentence("When a VASE is TAKEN on a day, what 0: the hour, 1: by whom; NONE: others, it is not.");
        LanternHall x = hall(HALL);
        same("v on 3", x.taken(0, 3, 0), 0);
        same("v on 3 by e", x.taken(0, 3, 1), 4);
        same("v on 2", x.taken(0, 2, 0), 4);
        same("v on 2 by d", x.taken(0, 2, 1), 3);
        same("w on 2", x.taken(1, 2, 0), 1);
        same("v on 0: it is not", x.taken(0, 0, 0), -1);
        same("v on 0: it is not", x.taken(0, 0, 1), -1);
        same("u: it is not", x.taken(2, 2, 0), -1);
        same("vase -1", x.taken(-1, 2, 0), -1);
        same("vase 3", x.taken(3, 2, 0), -1);
        same("day -1", x.taken(0, -1, 0), -1);
        same("day 4", x.taken(0, 4, 0), -1);
        same("what -1", x.taken(0, 2, -1), -1);
        same("what 2", x.taken(0, 2, 2), -1);
        for (int far : FAR) {
            same("vase " + far, x.taken(far, 2, 0), -1);
            same("day " + far, x.taken(0, far, 0), -1);
            same("what " + far, x.taken(0, 2, far), -1);
        }
    }

    private static void chance() {
        sentence("CHANCE, by odds (0 to 10); NONE: others.");
        LanternHall x = hall(HALL);
        for (int odds = 0; odds <= 10; odds++) {
            same("odds " + odds, x.chance(0, 2, odds), 100000 * odds);
            same("nobody, odds " + odds, x.chance(0, 0, odds), 0);
        }
        same("odds -1", x.chance(0, 2, -1), -1);
        same("odds 11", x.chance(0, 2, 11), -1);
        same("vase -1", x.chance(-1, 2, 5), -1);
        same("vase 3", x.chance(3, 2, 5), -1);
        same("day -1", x.chance(0, -1, 5), -1);
        same("day 4", x.chance(0, 4, 5), -1);
        for (int far : FAR) {
            same("vase " + far, x.chance(far, 2, 5), -1);
            same("day " + far, x.chance(0, far, 5), -1);
            same("odds " + far, x.chance(0, 2, far), -1);
        }
    }

    private static void pass() {
        sentence("PASS; NONE: others, the same, never.");
        LanternHall x = hall("visitor a lady on 0 goes 1 2; visitor b lady on 0 goes 3 2; visitor c lady on 0 goes 5;");
        same("a, b", x.pass(0, 1), 1);
        same("the same", x.pass(0, 0), -1);
        same("the last, the same", x.pass(2, 2), -1);
        same("never", x.pass(0, 2), -1);
        same("one beyond", x.pass(0, 3), -1);
        same("one beyond", x.pass(3, 0), -1);
        same("-1", x.pass(-1, 0), -1);
        same("-1", x.pass(0, -1), -1);
        same("both beyond", x.pass(3, 4), -1);
        for (int far : FAR) {
            same("" + far, x.pass(far, 0), -1);
            same("" + far, x.pass(0, far), -1);
            same("" + far, x.pass(far, far), -1);
        }
    }

    private static void best() {
        sentence("BEST; NONE: all CELLS have pillars.");
        same("all", hall("cells 2; guard 1; pillar 0; pillar 1;").best(), -1);
        same("all but the last", hall("cells 2; pillar 0;").best(), 1);
        same("all but the first", hall("cells 2; pillar 1;").best(), 0);
        same("beyond the last they are not", hall("cells 2; pillar 0; pillar 2; pillar 3;").best(), 1);
    }

    private static void byDay() {
        LanternHall x = hall(HALL);
        sentence("LONELY; NONE: others.");
        same("0", x.lonely(0), 3);
        same("3", x.lonely(3), 1);
        same("-1", x.lonely(-1), -1);
        same("4", x.lonely(4), -1);
        for (int far : FAR) {
            same("" + far, x.lonely(far), -1);
        }
        sentence("CROWD; NONE: others.");
        same("0", x.crowd(0), 1);
        same("3", x.crowd(3), 1);
        same("nobody", hall("").crowd(3), 0);
        same("-1", x.crowd(-1), -1);
        same("4", x.crowd(4), -1);
        for (int far : FAR) {
            same("" + far, x.crowd(far), -1);
        }
        sentence("GAP, as bits; NONE: others.");
        same("0", x.gap(0), 0b1101001);
        same("3", x.gap(3), 0b1101111);
        same("-1", x.gap(-1), -1);
        same("4", x.gap(4), -1);
        for (int far : FAR) {
            same("" + far, x.gap(far), -1);
        }
    }

    private static void alibi() {
        sentence("ALIBI, as bits; NONE: others.");
        LanternHall x = hall(HALL);
        same("a, 4", x.alibi(0, 4), 0b100);
        same("c, 6", x.alibi(2, 6), 0b11111110);
        same("the last CELL", x.alibi(0, 6), 0b111);
        same("one beyond", x.alibi(0, 7), -1);
        same("CELL 11", x.alibi(0, 11), -1);
        same("CELL -1", x.alibi(0, -1), -1);
        same("the last VISITOR", x.alibi(4, 0), 1);
        same("one beyond", x.alibi(5, 0), -1);
        same("-1", x.alibi(-1, 0), -1);
        for (int far : FAR) {
            same("visitor " + far, x.alibi(far, 0), -1);
            same("cell " + far, x.alibi(0, far), -1);
        }
    }

    private static void follows() {
        sentence("FOLLOWS, as bits; NONE: others, the same, not of one day.");
        LanternHall x = hall("visitor a lady on 0 goes 1 2; visitor b lady on 0 goes 0 1 2; visitor c lady on 1 goes 1;");
        same("b behind a", x.follows(1, 0), 0b11111110);
        same("a behind b", x.follows(0, 1), 0b11111000);
        same("the same", x.follows(0, 0), -1);
        same("not of one day", x.follows(0, 2), -1);
        same("not of one day", x.follows(2, 0), -1);
        same("one beyond", x.follows(0, 3), -1);
        same("one beyond", x.follows(3, 0), -1);
        same("-1", x.follows(-1, 0), -1);
        same("-1", x.follows(0, -1), -1);
        for (int far : FAR) {
            same("" + far, x.follows(far, 0), -1);
            same("" + far, x.follows(0, far), -1);
            same("" + far, x.follows(far, far), -1);
        }
    }

    private static void blotAndSame() {
        sentence("BLOT; NONE: all CELLS have pillars.");
        same("all", hall("cells 2; pillar 0; pillar 1;").blot(), -1);
        same("all but the last", hall("cells 2; pillar 0;").blot(), 1);
        same("nobody: the first", hall("").blot(), 0);
        sentence("SAME, how many.");
        same("none", hall("visitor a lady on 0 goes 0;visitor b lady on 1 goes 1;visitor c lady on 2 goes 2;").same(), 0);
        same("all six", hall("").same(), 6);
        same("four of four by somebody", hall("visitor a lady on 0 goes 0;visitor b lady on 1 goes 0;"
                + "visitor c lady on 2 goes 0;visitor d lady on 3 goes 0;").same(), 6);
    }

    private static void wavers() {
        sentence("WAVERS; NONE: others.");
        LanternHall x = hall("visitor a plain on 0 goes 1 2 1; visitor b lady on 0 goes 1;");
        same("a", x.wavers(0), 1);
        same("b", x.wavers(1), 0);
        same("one beyond", x.wavers(2), -1);
        same("-1", x.wavers(-1), -1);
        for (int far : FAR) {
            same("" + far, x.wavers(far), -1);
        }
    }

    private static void reach() {
        sentence("REACH; NONE: others, a pillar is there, not by 40.");
        LanternHall x = hall("cells 7; guard 3; pillar 5;");
        int[] want = {3, 2, 1, 0, 1, -1, -1};
        for (int cell = 0; cell < 7; cell++) {
            same("" + cell, x.reach(cell), want[cell]);
        }
        same("one beyond", x.reach(7), -1);
        same("-1", x.reach(-1), -1);
        same("32 beyond", x.reach(35), -1);
        for (int far : FAR) {
            same("" + far, x.reach(far), -1);
        }
        LanternHall y = hall("cells 7; guard 3; pillar 3;");
        same("he stands in a pillar", y.reach(3), -1);
        same("out of it", y.reach(4), 1);
    }

    private static void census() {
        sentence("CENSUS, as bits; NONE: others.");
        LanternHall x = hall(HALL);
        same("0, 0", x.census(0, 0), 3);
        same("1, 7", x.census(1, 7), 4);
        same("3, 0", x.census(3, 0), 16);
        same("3, 7: nobody", x.census(3, 7), 0);
        same("day -1", x.census(-1, 0), -1);
        same("day 4", x.census(4, 0), -1);
        same("hour -1", x.census(0, -1), -1);
        same("hour 8", x.census(1, 8), -1);
        for (int far : FAR) {
            same("day " + far, x.census(far, 0), -1);
            same("hour " + far, x.census(0, far), -1);
        }
    }

    private static void choose() {
        sentence("CHOOSE; NONE: it can't be.");
        String two = "visitor a lady on 3 goes 0;";
        same("oil 0", hall("oil 0;" + two).choose(), -1);
        same("oil 1", hall("oil 1;" + two).choose(), -1);
        same("oil 2", hall("oil 2;" + two).choose(), 0);
        same("oil 3", hall("oil 3;" + two).choose(), 3);
        LanternHall x = hall("oil 3;" + two);
        x.choose();
        same("nothing is done", x.count(6) + 10 * x.count(14), 0);
        same("oil", x.count(7), 3);
    }

    private static void fellow() {
        sentence("The fellow's CELL in so many (0 to 40) hours; NONE: others, there is none.");
        LanternHall x = hall("fellow 1 2 3 4 5 6 7;");
        same("0", x.fellow(0), 1);
        same("1", x.fellow(1), 2);
        same("39", x.fellow(39), 39 % 7 + 1);
        same("40", x.fellow(40), 40 % 7 + 1);
        same("41", x.fellow(41), -1);
        same("-1", x.fellow(-1), -1);
        for (int far : FAR) {
            same("" + far, x.fellow(far), -1);
        }
        for (int i = 0; i < 99; i++) {
            x.step(0);
        }
        same("behind 99 steps", x.fellow(40), 139 % 7 + 1);
        LanternHall none = new LanternHall();
        same("none", none.fellow(0), -1);
        same("none", none.fellow(40), -1);
    }

    private static void exposed() {
        sentence("EXPOSED, as bits; NONE: others.");
        LanternHall x = hall(HALL);
        same("a", x.exposed(0), 0b111);
        same("the last", x.exposed(4), 1);
        same("one beyond", x.exposed(5), -1);
        same("-1", x.exposed(-1), -1);
        for (int far : FAR) {
            same("" + far, x.exposed(far), -1);
        }
    }

    private static void would() {
        sentence("WOULD; NONE: others.");
        LanternHall x = hall(HALL);
        same("1", x.would(1), 1);
        same("0", x.would(0), 0);
        same("-1", x.would(-1), 2);
        same("2", x.would(2), -1);
        same("-2", x.would(-2), -1);
        for (int far : FAR) {
            same("" + far, x.would(far), -1);
        }
    }

    private static void rests() {
        sentence("RESTS of LAMPS by what both get, what one loses, what the other one gets, what NONE: how many; i: the"
                + " i-th as 2 * the first one's choice + the other one's (1 shines; the least first).");
        LanternHall x = new LanternHall();
        same("how many", Check.rests(x, 5, 0, 9, -1), 3);
        same("0: both save", Check.rests(x, 5, 0, 9, 0), 0);
        same("1: the other one shines", Check.rests(x, 5, 0, 9, 1), 1);
        same("2: the first one shines", Check.rests(x, 5, 0, 9, 2), 2);
        sentence("NoSuchElementException: others, none such.");
        same("3: none such", Check.rests(x, 5, 0, 9, 3), Check.THREW);
        same("what -2", Check.rests(x, 5, 0, 9, -2), Check.THREW);
        for (int what = -1; what <= 0; what++) {
            same("both -1", Check.rests(x, -1, 0, 0, what), Check.THREW);
            same("both 10", Check.rests(x, 10, 0, 0, what), Check.THREW);
            same("loses -1", Check.rests(x, 0, -1, 0, what), Check.THREW);
            same("loses 10", Check.rests(x, 0, 10, 0, what), Check.THREW);
            same("gets -1", Check.rests(x, 0, 0, -1, what), Check.THREW);
            same("gets 10", Check.rests(x, 0, 0, 10, what), Check.THREW);
        }
        same("nines", Check.rests(x, 9, 9, 9, -1), 2);
        same("nines", Check.rests(x, 9, 9, 9, 1), 3);
        for (int far : FAR) {
            same("both " + far, Check.rests(x, far, 0, 0, -1), Check.THREW);
            same("loses " + far, Check.rests(x, 0, far, 0, -1), Check.THREW);
            same("gets " + far, Check.rests(x, 0, 0, far, -1), Check.THREW);
            same("what " + far, Check.rests(x, 0, 0, 0, far), Check.THREW);
        }
    }

    private static void nights() {
        sentence("NIGHTS by a SEED (0 to 9999), what 0: bits, 1: bumps, 2: oil; NONE: others.");
        LanternHall x = hall("cells 2; oil 50; visitor a lady on 0 goes 1;");
        // The SEED 0 draws 0 first: on, a bump into a.
        same("seed 0, a step: bits", x.nights(0, 1, 0), 1);
        same("seed 0, a step: bumps", x.nights(0, 1, 1), 1);
        same("seed 0, a step: oil", x.nights(0, 1, 2), 49);
        same("seed 9999, 99 steps", x.nights(9999, 99, 2), 0);
        same("seed -1", x.nights(-1, 1, 2), -1);
        same("seed 10000", x.nights(10000, 1, 2), -1);
        same("no steps", x.nights(0, 0, 2), -1);
        same("100 steps", x.nights(0, 100, 2), -1);
        same("what -1", x.nights(0, 1, -1), -1);
        same("what 3", x.nights(0, 1, 3), -1);
        for (int far : FAR) {
            same("seed " + far, x.nights(far == 1000 ? 10001 : far, 1, 2), -1);
            same("steps " + far, x.nights(0, far, 2), -1);
            same("what " + far, x.nights(0, 1, far), -1);
        }
    }

    private static void mark() {
        sentence("A MARK is laid (back: gone back to): true; false: none such, nothing is on it (back).");
        LanternHall x = hall(HALL);
        for (int mark = 0; mark < 4; mark++) {
            same("nothing is on " + mark, x.mark(mark, true), false);
            same("laid", x.mark(mark, false), true);
            same("gone back to", x.mark(mark, true), true);
            same("again", x.mark(mark, true), true);
        }
        same("-1", x.mark(-1, false), false);
        same("4", x.mark(4, false), false);
        same("-1 back", x.mark(-1, true), false);
        same("4 back", x.mark(4, true), false);
        for (int far : FAR) {
            same("" + far, x.mark(far, false), false);
            same("" + far + " back", x.mark(far, true), false);
        }
        x.step(0);
        same("laid over", x.mark(1, false), true);
        x.step(0);
        same("back to 1", x.mark(1, true), true);
        same("a step", x.count(8), 1);
        same("back to 0", x.mark(0, true), true);
        same("no step", x.count(8), 0);
        same("back to 1, on", x.mark(1, true), true);
        same("a step", x.count(8), 1);
    }

    private static void count() {
        sentence("What 0: CELLS, 1: VISITORS, 2: VASES, 3: the beam, 4: the guard's CELL, 5: the hour, 6: the day, 7:"
                + " oil, 8: steps, 9: bumps, 10: who was SEEN, as bits, 11: pillars, as bits, 12: lines of the NIGHT, 13:"
                + " SAID, 14: what can be undone, 15: signs on the TAPE. NONE for another what.");
        LanternHall x = hall(HALL);
        x.step(-1);
        x.step(-1);
        x.trim(3);
        x.say(0, 0, false);
        same("a NIGHT", Check.tellNight(x, "on;on;on;on;"), 0);
        Check.feed(x, "abcde");
        // Back into b, twice; then b stands at 1, and he goes to 2, where a and nobody else is seen at hour 2.
        int[] want = {7, 5, 3, 2, 2, 2, 3, 36, 2, 2, 0b00011, 1 << 5, 4, 1, 3, 5};
        for (int what = 0; what < want.length; what++) {
            same("count " + what, x.count(what), want[what]);
        }
        same("-1", x.count(-1), -1);
        same("16", x.count(16), -1);
        for (int far : FAR) {
            same("" + far, x.count(far), -1);
        }
    }

    /** Asking changes nothing: each question at its boundary and beyond, and all is as ahead. */
    private static void asking() {
        sentence("from now on (all is as ahead then)");
        for (int part = 0; part < 2; part++) {
            LanternHall x = hall(HALL);
            same("a NIGHT", Check.tellNight(x, "trim 1; on; on; rest; fill 3; back;"), 0);
            x.step(1);
            x.say(0, 1, false);
            x.mark(2, false);
            x.trim(1);
            Check.feed(x, "cells");
            String before = Check.state(x);
            for (int i = -1; i <= 12; i++) {
                askOf(x, i, part);
            }
            Check.same("all is as ahead", Check.state(x), before);
            same("two can be undone", x.count(14), 2);
            same("the MARK is there", x.mark(2, true), true);
            same("no other", x.mark(1, true), false);
        }
    }

    private static void askOf(LanternHall x, int i, int part) {
        if (part == 0) {
            x.shortest(i);
            x.reach(i);
            x.would(i);
            x.nights(i, 99, i & 1);
            x.taken(i, 2, 0);
            x.chance(0, 2, i);
            x.pass(0, i);
        } else {
            x.alibi(i, i);
            x.follows(1, i);
            x.wavers(i);
            x.exposed(i);
            x.lonely(i);
            x.census(i, i);
            x.crowd(i);
            x.cover();
            x.best();
            x.blot();
            x.choose();
            x.same();
            Check.rests(x, i, 1, 1, i);
        }
    }

    /** Refused calls change nothing at all. */
    private static void refused() {
        sentence("NONE: others, it can't be.");
        LanternHall x = hall("oil 1; fellow 1; visitor a lady on 0 goes 1;");
        for (int i = 0; i < 8; i++) {
            x.say(i, 0, false);
        }
        String before = Check.state(x);
        x.step(2);
        x.trim(1);
        x.trim(4);
        x.fill(0);
        x.fill(100);
        x.say(0, 0, true);
        x.mark(4, false);
        x.mark(0, true);
        x.undo();
        Check.rests(x, 10, 0, 0, 0);
        x.nights(10000, 1, 0);
        Check.same("all is as ahead", Check.state(x), before);
        same("no MARK is laid", x.mark(0, true), false);
    }

    /** The 512th call is promised still. */
    private static void manyCalls() {
        sentence("An object is used for at most 512 calls after it has been made;");
        LanternHall x = new LanternHall();
        for (int i = 0; i < 511; i++) {
            x.step(i % 2);
        }
        same("the 512th", x.count(8), 511);
        LanternHall y = new LanternHall();
        for (int i = 0; i < 510; i++) {
            y.feed(0x3F3F3F3F3F3F3F3FL, 0x3F3F3F3F3F3F3F3FL, 0x3F3F3F3F3F3F3F3FL);
        }
        same("the 511th", y.count(15), 1000);
        same("the 512th", y.hall(), 1);
        LanternHall z = new LanternHall();
        for (int i = 0; i < 511; i++) {
            z.fill(1);
        }
        same("the 512th", z.count(14), 16);
    }
}
