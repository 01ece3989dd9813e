import java.util.Arrays;
import java.util.NoSuchElementException;

/** A night guard's lamp that lights a hall as it was by day; ../shared/DOC.md numbers what it promises. */
public final class LanternHall {
    public static final int NONE = -1;

    private static final int OTHERS = -2;

    private static final int DAY_COUNT = 4;
    private static final int HOUR_COUNT = 8;
    private static final int MOST_CELLS = 12;
    private static final int MOST_VISITORS = 6;
    private static final int MOST_VASES = 4;
    private static final int MOST_OIL = 99;
    private static final int TRIM_OIL = 2;
    private static final int MOST_SIGNS = 1000;
    private static final int MOST_LINES = 40;
    private static final int MOST_SAID = 8;
    private static final int MOST_UNDONE = 16;
    private static final int MARK_COUNT = 4;
    private static final int FAR_AHEAD = 40;
    private static final int MOST_DRAWN = 99;
    private static final int MOST_SEED = 9999;
    private static final int MOST_PAY = 9;
    private static final int MILLION = 1000000;

    private static final int PLAIN_KIND = 0;
    private static final int CHILD_KIND = 1;
    private static final int LADY_KIND = 2;
    private static final int THIEF_KIND = 3;

    // TOKENS: the words by their place in Reader.WORDS, then the rest.
    private static final int CELLS = 0;
    private static final int PILLAR = 1;
    private static final int VISITOR = 2;
    private static final int ON = 3;
    private static final int GOES = 4;
    private static final int VASE = 5;
    private static final int AT = 6;
    private static final int BEAM = 7;
    private static final int OIL = 8;
    private static final int GUARD = 9;
    private static final int FELLOW = 10;
    private static final int SHOWS = 11;
    private static final int BACK = 12;
    private static final int REST = 13;
    private static final int TRIM = 14;
    private static final int FILL = 15;
    private static final int PLAIN = 16;
    private static final int THIEF = 19;
    private static final int NOT = 20;
    private static final int AND = 21;
    private static final int OR = 22;
    private static final int DAY = 23;
    private static final int LEFT = 24;
    private static final int FAR = 25;
    private static final int HOUR = 26;
    private static final int OTHER_WORD = 27;
    private static final int NUMBER = 28;
    private static final int OPEN = 29;
    private static final int CLOSE = 30;
    private static final int LESS = 31;
    private static final int EQUAL = 32;
    private static final int PLUS = 33;
    private static final int MINUS = 34;
    private static final int TIMES = 35;
    private static final int SEMICOLON = 36;
    private static final int END = 37;
    private static final int NO_TOKEN = 38;

    // The kinds of FAULTS.
    private static final int CANNOT_STAND = 1;
    private static final int TOLD_ALREADY = 3;
    private static final int NOT_AS_TOLD = 4;
    private static final int ONE_TOO_MANY = 5;

    private final Reader reader = new Reader();
    private final Walks walks = new Walks();
    private final Moment now = new Moment();
    private final Moment trial = new Moment();
    private final Moment[] past = new Moment[MOST_UNDONE];
    private final Mark[] marks = new Mark[MARK_COUNT];
    private Hall hall = new Hall();
    private Hall spareHall = new Hall();
    private Night night = new Night();
    private Night spareNight = new Night();
    private int pastEnd = 0;
    private int pastCount = 0;
    private int said = 0;
    private int saidDays = 15;

    public LanternHall() {
        for (int i = 0; i < MOST_UNDONE; i++) {
            past[i] = new Moment();
        }
        for (int i = 0; i < MARK_COUNT; i++) {
            marks[i] = new Mark();
        }
        hall.clear();
        hall.settle();
        now.begin(hall);
    }

    public int feed(long a, long b, long c) {
        reader.putBytes(a);
        reader.putBytes(b);
        reader.putBytes(c);
        return reader.length;
    }

    public int hall() {
        int fault = new HallReader(reader, spareHall).readLines();
        if (fault == 0) {
            Hall old = hall;
            hall = spareHall;
            spareHall = old;
            hall.settle();
            beginAnew();
        }
        return fault;
    }

    private void beginAnew() {
        now.begin(hall);
        night.lines = 0;
        said = 0;
        saidDays = 15;
        pastCount = 0;
        for (int i = 0; i < MARK_COUNT; i++) {
            marks[i].laid = false;
        }
    }

    public int night() {
        int fault = spareNight.readLines(reader);
        if (fault == 0) {
            Night old = night;
            night = spareNight;
            spareNight = old;
        }
        return fault;
    }

    public int visitor(int visitor, int what) {
        if (!hall.hasVisitor(visitor)) {
            return OTHERS;
        }
        switch (what) {
            case 0:
                return hall.kinds[visitor];
            case 1:
                return hall.days[visitor];
            case 2:
                return hall.placeOf(visitor, now.hour);
            case 3:
                return now.seen >> visitor & 1;
            case 4:
                return hall.seenBy(now) >> visitor & 1;
            default:
                return OTHERS;
        }
    }

    public int at(int visitor, int hour) {
        return hall.placeOf(visitor, hour);
    }

    public int vase(int vase, int what) {
        if (!hall.hasVase(vase)) {
            return OTHERS;
        }
        switch (what) {
            case 0:
                return hall.vaseCells[vase];
            case 1:
                return hall.vasesSeenBy(now) >> vase & 1;
            default:
                return OTHERS;
        }
    }

    public int light() {
        return hall.litBy(now);
    }

    public int shown(int cell) {
        if (!hall.hasCell(cell) || (hall.litBy(now) >> cell & 1) == 0) {
            return NONE;
        }
        return hall.law.dayShown(now.day, now.oil, Math.abs(cell - now.cell), now.hour);
    }

    public int sees() {
        return hall.seenBy(now);
    }

    public int treasures() {
        return hall.vasesSeenBy(now);
    }

    public int step(int way) {
        if (!isWay(way)) {
            return NONE;
        }
        remember();
        return hall.walk(now, way);
    }

    private static boolean isWay(int way) {
        return way >= -1 && way <= 1;
    }

    private static boolean isDay(int day) {
        return day >= 0 && day < DAY_COUNT;
    }

    private static boolean isHour(int hour) {
        return hour >= 0 && hour < HOUR_COUNT;
    }

    private void remember() {
        past[pastEnd].become(now);
        pastEnd = (pastEnd + 1) % MOST_UNDONE;
        if (pastCount < MOST_UNDONE) {
            pastCount++;
        }
    }

    public int trim(int day) {
        if (!isDay(day) || now.oil < TRIM_OIL) {
            return NONE;
        }
        remember();
        now.trimTo(day);
        return now.oil;
    }

    public int fill(int oil) {
        if (oil < 1 || oil > MOST_OIL) {
            return NONE;
        }
        remember();
        now.fillBy(oil);
        return now.oil;
    }

    public boolean undo() {
        if (pastCount == 0) {
            return false;
        }
        pastEnd = (pastEnd + MOST_UNDONE - 1) % MOST_UNDONE;
        pastCount--;
        now.become(past[pastEnd]);
        return true;
    }

    public int judged(int what) {
        if (what < 0 || what > 2) {
            return OTHERS;
        }
        trial.begin(hall);
        night.play(hall, trial);
        if (what == 0) {
            return night.firstFailed;
        }
        return what == 1 ? night.firstBump : trial.seen;
    }

    public int shortest(int visitors) {
        if (visitors < 0 || visitors >= 1 << hall.visitors) {
            return NONE;
        }
        return walks.fewestToSee(hall, now, visitors);
    }

    public int cover() {
        int best = NONE;
        int fewest = MOST_CELLS + 1;
        for (int set = 1; set <= hall.allCells(); set++) {
            if (Integer.bitCount(set) < fewest && (set & hall.pillars) == 0
                    && hall.litFromAll(set) == hall.allCells()) {
                best = set;
                fewest = Integer.bitCount(set);
            }
        }
        return best;
    }

    public boolean say(int hour, int cell, boolean somebody) {
        if (!isHour(hour) || !hall.hasCell(cell) || said >= MOST_SAID) {
            return false;
        }
        said++;
        int with = hall.daysWithSomebody(hour, cell);
        saidDays &= somebody ? with : ~with;
        return true;
    }

    public int days() {
        return saidDays;
    }

    public int ask() {
        int best = NONE;
        int least = Integer.bitCount(saidDays);
        for (int hour = 0; hour < HOUR_COUNT; hour++) {
            for (int cell = 0; cell < hall.cells; cell++) {
                int with = hall.daysWithSomebody(hour, cell);
                int greater = Math.max(Integer.bitCount(saidDays & with), Integer.bitCount(saidDays & ~with));
                if (greater < least) {
                    least = greater;
                    best = 12 * hour + cell;
                }
            }
        }
        return best;
    }

    public int meet() {
        if (hall.fellows == 0) {
            return NONE;
        }
        // While he rests an oil goes each hour, so past his oil he lights nothing.
        for (int hours = 0; hours <= FAR_AHEAD && hours < now.oil; hours++) {
            int other = hall.lightFrom(hall.fellowAt(now.steps + hours));
            if ((hall.lightFrom(now.cell) & other) != 0) {
                return hours;
            }
        }
        return NONE;
    }

    public int never() {
        int lit = 0;
        for (int i = 0; i < hall.fellows; i++) {
            lit |= hall.lightFrom(hall.fellowAt(i));
        }
        return hall.allCells() & ~lit;
    }

    public int taken(int vase, int day, int what) {
        if (!hall.hasVase(vase) || !isDay(day) || what < 0 || what > 1) {
            return NONE;
        }
        int hour = hall.hourTaken(vase, day);
        return what == 0 || hour == NONE ? hour : hall.firstThiefIn(hall.vaseCells[vase], day, hour);
    }

    public int chance(int vase, int day, int odds) {
        if (!hall.hasVase(vase) || !isDay(day) || odds < 0 || odds > 10) {
            return NONE;
        }
        // Six tenths at most are multiplied, so the millionths come out even.
        int safe = MILLION;
        for (int visitor = 0; visitor < hall.visitors; visitor++) {
            if (hall.wouldTake(visitor, vase, day)) {
                safe = safe / 10 * (10 - odds);
            }
        }
        return MILLION - safe;
    }

    public int pass(int visitor, int other) {
        if (!hall.areTwoOfOneDay(visitor, other)) {
            return NONE;
        }
        for (int hour = 0; hour < HOUR_COUNT; hour++) {
            int cell = hall.placeOf(visitor, hour);
            if (cell != NONE && cell == hall.placeOf(other, hour)) {
                return hour;
            }
        }
        return NONE;
    }

    public int best() {
        int best = NONE;
        int most = -1;
        trial.become(now);
        for (int cell = 0; cell < hall.cells; cell++) {
            trial.cell = cell;
            int seen = hall.hasPillar(cell) ? -1 : Integer.bitCount(hall.seenBy(trial));
            if (seen > most) {
                most = seen;
                best = cell;
            }
        }
        return best;
    }

    public int lonely(int day) {
        if (!isDay(day)) {
            return NONE;
        }
        int loneliest = 0;
        int fewest = MOST_VISITORS + 1;
        for (int hour = 0; hour < HOUR_COUNT; hour++) {
            int there = Integer.bitCount(hall.whoIsThere(day, hour));
            if (there < fewest) {
                fewest = there;
                loneliest = hour;
            }
        }
        return loneliest;
    }

    public int crowd(int day) {
        if (!isDay(day)) {
            return NONE;
        }
        int most = 0;
        for (int hour = 0; hour < HOUR_COUNT; hour++) {
            int there = hall.whoIsThere(day, hour);
            for (int cell = 0; cell < hall.cells; cell++) {
                most = Math.max(most, Integer.bitCount(there & hall.whoIsIn(cell, hour)));
            }
        }
        return most;
    }

    public int alibi(int visitor, int cell) {
        if (!hall.hasVisitor(visitor) || !hall.hasCell(cell)) {
            return NONE;
        }
        int hours = 0;
        for (int hour = 0; hour < HOUR_COUNT; hour++) {
            int place = hall.placeOf(visitor, hour);
            if (place != NONE && place != cell) {
                hours |= 1 << hour;
            }
        }
        return hours;
    }

    public int follows(int visitor, int other) {
        if (!hall.areTwoOfOneDay(visitor, other)) {
            return NONE;
        }
        int hours = 0;
        for (int hour = 1; hour < HOUR_COUNT; hour++) {
            int place = hall.placeOf(visitor, hour);
            if (place != NONE && place == hall.placeOf(other, hour - 1)) {
                hours |= 1 << hour;
            }
        }
        return hours;
    }

    public int blot() {
        int best = NONE;
        int fewest = MOST_VISITORS + 1;
        for (int cell = 0; cell < hall.cells; cell++) {
            if (!hall.hasPillar(cell)) {
                int left = Integer.bitCount(hall.seenBehind(now, hall.pillars | 1 << cell));
                if (left < fewest) {
                    fewest = left;
                    best = cell;
                }
            }
        }
        return best;
    }

    public int gap(int day) {
        if (!isDay(day)) {
            return NONE;
        }
        int trodden = 0;
        for (int hour = 0; hour < HOUR_COUNT; hour++) {
            trodden |= hall.cellsWithSomebody(day, hour);
        }
        return hall.allCells() & ~trodden;
    }

    public int same() {
        int pairs = 0;
        for (int day = 0; day < DAY_COUNT; day++) {
            for (int other = day + 1; other < DAY_COUNT; other++) {
                if (hall.areAlike(day, other)) {
                    pairs++;
                }
            }
        }
        return pairs;
    }

    public int wavers(int visitor) {
        if (!hall.hasVisitor(visitor)) {
            return NONE;
        }
        int turns = 0;
        int last = 0;
        for (int hour = 1; hour < HOUR_COUNT; hour++) {
            int from = hall.placeOf(visitor, hour - 1);
            int to = hall.placeOf(visitor, hour);
            int way = from == NONE || to == NONE ? 0 : Integer.compare(to, from);
            if (way != 0) {
                turns += way == -last ? 1 : 0;
                last = way;
            }
        }
        return turns;
    }

    public int reach(int cell) {
        if (!hall.hasCell(cell) || hall.hasPillar(cell)) {
            return NONE;
        }
        return walks.fewestToStand(hall, now, cell);
    }

    public int census(int day, int hour) {
        if (!isDay(day) || !isHour(hour)) {
            return NONE;
        }
        return hall.whoIsThere(day, hour);
    }

    public int choose() {
        if (now.oil < TRIM_OIL) {
            return NONE;
        }
        int best = NONE;
        int most = -1;
        for (int day = 0; day < DAY_COUNT; day++) {
            trial.become(now);
            trial.trimTo(day);
            int seen = Integer.bitCount(hall.seenBy(trial));
            if (seen > most) {
                most = seen;
                best = day;
            }
        }
        return best;
    }

    public int fellow(int hours) {
        if (hours < 0 || hours > FAR_AHEAD) {
            return NONE;
        }
        return hall.fellowAt(now.steps + hours);
    }

    public int exposed(int visitor) {
        if (!hall.hasVisitor(visitor)) {
            return NONE;
        }
        int lit = hall.lightFrom(now.cell);
        int hours = 0;
        for (int hour = 0; hour < HOUR_COUNT; hour++) {
            int place = hall.placeOf(visitor, hour);
            if (place != NONE && (lit >> place & 1) == 1) {
                hours |= 1 << hour;
            }
        }
        return hours;
    }

    public int would(int way) {
        return isWay(way) ? hall.bumpsOf(now, way) : NONE;
    }

    public int rests(int both, int loses, int gets, int what) throws NoSuchElementException {
        if (!isPay(both) || !isPay(loses) || !isPay(gets) || what < NONE) {
            throw new NoSuchElementException();
        }
        int found = 0;
        for (int choices = 0; choices < 4; choices++) {
            int first = choices >> 1;
            int other = choices & 1;
            if (isAtRest(first, other, both, loses, gets) && isAtRest(other, first, both, loses, gets)) {
                if (found == what) {
                    return choices;
                }
                found++;
            }
        }
        if (what != NONE) {
            throw new NoSuchElementException();
        }
        return found;
    }

    private static boolean isPay(int pay) {
        return pay >= 0 && pay <= MOST_PAY;
    }

    private static boolean isAtRest(int own, int other, int both, int loses, int gets) {
        return payOf(own, other, both, loses, gets) >= payOf(1 - own, other, both, loses, gets);
    }

    private static int payOf(int own, int other, int both, int loses, int gets) {
        if (own == 1) {
            return other == 1 ? both : -loses;
        }
        return other == 1 ? gets : 0;
    }

    public int nights(int seed, int steps, int what) {
        if (seed < 0 || seed > MOST_SEED || steps < 1 || steps > MOST_DRAWN || what < 0 || what > 2) {
            return NONE;
        }
        trial.become(now);
        drawNight(seed, steps);
        if (what == 0) {
            return trial.seen;
        }
        return what == 1 ? trial.bumps - now.bumps : trial.oil;
    }

    private void drawNight(int seed, int steps) {
        long drawn = seed;
        for (int i = 0; i < steps; i++) {
            drawn = nextDrawn(drawn);
            int act = drawBelow(drawn, 8);
            if (act == 7) {
                drawn = nextDrawn(drawn);
                if (trial.oil >= TRIM_OIL) {
                    trial.trimTo(drawBelow(drawn, DAY_COUNT));
                }
            }
            hall.walk(trial, act < 3 ? 1 : act < 6 ? -1 : 0);
        }
    }

    private static long nextDrawn(long drawn) {
        return (drawn * 1103515245L + 12345L) % 2147483648L;
    }

    private static int drawBelow(long drawn, int bound) {
        return bound > 0 ? (int) (drawn / 65536L % bound) : 0;
    }

    public boolean mark(int mark, boolean back) {
        if (mark < 0 || mark >= MARK_COUNT) {
            return false;
        }
        Mark place = marks[mark];
        if (!back) {
            place.laid = true;
            place.moment.become(now);
            place.said = said;
            place.saidDays = saidDays;
            return true;
        }
        if (place.laid) {
            now.become(place.moment);
            said = place.said;
            saidDays = place.saidDays;
            pastCount = 0;
        }
        return place.laid;
    }

    public int count(int what) {
        switch (what) {
            case 0:
                return hall.cells;
            case 1:
                return hall.visitors;
            case 2:
                return hall.vases;
            case 3:
                return hall.beam;
            case 4:
                return now.cell;
            case 5:
                return now.hour;
            case 6:
                return now.day;
            case 7:
                return now.oil;
            case 8:
                return now.steps;
            case 9:
                return now.bumps;
            case 10:
                return now.seen;
            case 11:
                return hall.pillars;
            case 12:
                return night.lines;
            case 13:
                return said;
            case 14:
                return pastCount;
            case 15:
                return reader.length;
            default:
                return NONE;
        }
    }

    /** All that UNDO brings back. */
    private static final class Moment {
        int cell;
        int hour;
        int day;
        int oil;
        int steps;
        int bumps;
        int seen;

        void begin(Hall hall) {
            cell = hall.guard;
            hour = 0;
            day = 0;
            oil = hall.oil;
            steps = 0;
            bumps = 0;
            seen = 0;
        }

        void become(Moment other) {
            cell = other.cell;
            hour = other.hour;
            day = other.day;
            oil = other.oil;
            steps = other.steps;
            bumps = other.bumps;
            seen = other.seen;
        }

        void trimTo(int newDay) {
            day = newDay;
            oil -= TRIM_OIL;
        }

        void fillBy(int more) {
            oil = Math.min(MOST_OIL, oil + more);
        }
    }

    private static final class Mark {
        final Moment moment = new Moment();
        boolean laid;
        // The HALL stays while a MARK is there, so the DAYS that are left stand for all that was SAID.
        int said;
        int saidDays;
    }

    /** A HALL as told; settle() then takes away what is told of CELLS that are not there. */
    private static final class Hall {
        final Law law = new Law();
        final int[] kinds = new int[MOST_VISITORS];
        final int[] days = new int[MOST_VISITORS];
        final int[] hoursTold = new int[MOST_VISITORS];
        final int[] places = new int[MOST_VISITORS * HOUR_COUNT];
        final int[] vaseCells = new int[MOST_VASES];
        final int[] fellowCells = new int[HOUR_COUNT];
        final int[] lights = new int[MOST_CELLS];
        // The day shown so far off, for one day, oil and hour at a time.
        final int[] daysShown = new int[MOST_CELLS];
        int cells;
        int pillars;
        int visitors;
        int vases;
        int beam;
        int oil;
        int guard;
        int fellows;

        void clear() {
            cells = 8;
            pillars = 0;
            visitors = 0;
            vases = 0;
            beam = 2;
            oil = 30;
            guard = 0;
            fellows = 0;
            law.clear();
        }

        void settle() {
            pillars &= allCells();
            guard = Math.min(guard, cells - 1);
            for (int i = 0; i < fellows && i < HOUR_COUNT; i++) {
                fellowCells[i] = Math.min(fellowCells[i], cells - 1);
            }
            for (int i = 0; i < vases && i < MOST_VASES; i++) {
                vaseCells[i] = withinHall(vaseCells[i]);
            }
            for (int i = 0; i < visitors && i < MOST_VISITORS; i++) {
                settleVisitor(i);
            }
            for (int i = 0; i < cells && i < MOST_CELLS; i++) {
                lights[i] = lightAmong(i, pillars);
            }
        }

        private int withinHall(int cell) {
            return hasCell(cell) ? cell : NONE;
        }

        private void settleVisitor(int visitor) {
            int first = visitor * HOUR_COUNT;
            int told = hoursTold[visitor];
            boolean stays = kinds[visitor] == LADY_KIND && told > 0;
            int later = stays && told <= HOUR_COUNT ? places[first + told - 1] : NONE;
            for (int hour = 0; hour < HOUR_COUNT; hour++) {
                places[first + hour] = withinHall(hour < told ? places[first + hour] : later);
            }
        }

        /** The CELLS lit from one, were these the pillars; the pillar in his own CELL does not lie between. */
        int lightAmong(int cell, int standing) {
            int lit = 1 << cell;
            for (int far = 1; far <= beam && cell + far < cells; far++) {
                lit |= 1 << cell + far;
                if ((standing >> cell + far & 1) == 1) {
                    break;
                }
            }
            for (int far = 1; far <= beam && cell - far >= 0; far++) {
                lit |= 1 << cell - far;
                if ((standing >> cell - far & 1) == 1) {
                    break;
                }
            }
            return lit;
        }

        int allCells() {
            return (1 << cells) - 1;
        }

        boolean hasCell(int cell) {
            return cell >= 0 && cell < cells;
        }

        boolean hasVisitor(int visitor) {
            return visitor >= 0 && visitor < visitors;
        }

        boolean hasVase(int vase) {
            return vase >= 0 && vase < vases;
        }

        boolean hasPillar(int cell) {
            return hasCell(cell) && (pillars >> cell & 1) == 1;
        }

        int lightFrom(int cell) {
            return hasCell(cell) ? lights[cell] : 0;
        }

        int litFromAll(int set) {
            int lit = 0;
            for (int cell = 0; cell < cells; cell++) {
                if ((set >> cell & 1) == 1) {
                    lit |= lights[cell];
                }
            }
            return lit;
        }

        int litBy(Moment moment) {
            return moment.oil > 0 ? lightFrom(moment.cell) : 0;
        }

        int placeOf(int visitor, int hour) {
            return hasVisitor(visitor) && isHour(hour) ? places[visitor * HOUR_COUNT + hour] : NONE;
        }

        boolean areTwoOfOneDay(int visitor, int other) {
            return hasVisitor(visitor) && hasVisitor(other) && visitor != other && days[visitor] == days[other];
        }

        int whoIsThere(int day, int hour) {
            int there = 0;
            for (int visitor = 0; visitor < visitors; visitor++) {
                if (days[visitor] == day && placeOf(visitor, hour) != NONE) {
                    there |= 1 << visitor;
                }
            }
            return there;
        }

        int whoIsIn(int cell, int hour) {
            int there = 0;
            for (int visitor = 0; visitor < visitors; visitor++) {
                if (placeOf(visitor, hour) == cell) {
                    there |= 1 << visitor;
                }
            }
            return there;
        }

        int cellsWithSomebody(int day, int hour) {
            int trodden = 0;
            for (int visitor = 0; visitor < visitors; visitor++) {
                int place = placeOf(visitor, hour);
                if (days[visitor] == day && place != NONE) {
                    trodden |= 1 << place;
                }
            }
            return trodden;
        }

        int daysWithSomebody(int hour, int cell) {
            int with = 0;
            for (int visitor = 0; visitor < visitors; visitor++) {
                if (placeOf(visitor, hour) == cell) {
                    with |= 1 << days[visitor];
                }
            }
            return with;
        }

        boolean areAlike(int day, int other) {
            for (int hour = 0; hour < HOUR_COUNT; hour++) {
                if (cellsWithSomebody(day, hour) != cellsWithSomebody(other, hour)) {
                    return false;
                }
            }
            return true;
        }

        int firstThiefIn(int cell, int day, int hour) {
            for (int visitor = 0; visitor < visitors; visitor++) {
                if (kinds[visitor] == THIEF_KIND && days[visitor] == day && placeOf(visitor, hour) == cell) {
                    return visitor;
                }
            }
            return NONE;
        }

        int hourTaken(int vase, int day) {
            int cell = vaseCells[vase];
            for (int hour = 0; cell != NONE && hour < HOUR_COUNT; hour++) {
                if (firstThiefIn(cell, day, hour) != NONE) {
                    return hour;
                }
            }
            return NONE;
        }

        boolean wouldTake(int visitor, int vase, int day) {
            int cell = vaseCells[vase];
            if (kinds[visitor] != THIEF_KIND || days[visitor] != day || cell == NONE) {
                return false;
            }
            for (int hour = 0; hour < HOUR_COUNT; hour++) {
                if (placeOf(visitor, hour) == cell) {
                    return true;
                }
            }
            return false;
        }

        /** The fellow's CELL behind so many steps of the night; NONE without a fellow. */
        int fellowAt(int steps) {
            return fellows > 0 && steps >= 0 ? fellowCells[steps % fellows] : NONE;
        }

        /** What one day, oil and hour show is the same from all CELLS, so it is told once for each distance. */
        void tellDaysShown(int day, int left, int hour) {
            for (int far = 0; far <= beam && far < MOST_CELLS; far++) {
                daysShown[far] = law.dayShown(day, left, far, hour);
            }
        }

        int seenIn(int lit, int cell, int hour) {
            int seen = 0;
            for (int visitor = 0; visitor < visitors; visitor++) {
                int place = placeOf(visitor, hour);
                if (place != NONE && (lit >> place & 1) == 1 && daysShown[Math.abs(place - cell)] == days[visitor]) {
                    seen |= 1 << visitor;
                }
            }
            return seen;
        }

        int seenBehind(Moment moment, int standing) {
            if (moment.oil <= 0) {
                return 0;
            }
            tellDaysShown(moment.day, moment.oil, moment.hour);
            return seenIn(lightAmong(moment.cell, standing), moment.cell, moment.hour);
        }

        int seenBy(Moment moment) {
            return seenBehind(moment, pillars);
        }

        int vasesSeenBy(Moment moment) {
            int lit = litBy(moment);
            int seen = 0;
            for (int vase = 0; vase < vases; vase++) {
                int cell = vaseCells[vase];
                if (cell != NONE && (lit >> cell & 1) == 1) {
                    int far = Math.abs(cell - moment.cell);
                    int gone = hourTaken(vase, law.dayShown(moment.day, moment.oil, far, moment.hour));
                    seen |= gone == NONE || moment.hour < gone ? 1 << vase : 0;
                }
            }
            return seen;
        }

        private boolean canEnter(int cell) {
            return hasCell(cell) && !hasPillar(cell);
        }

        /** With oil the next CELL is always lit, so it is its day alone that tells who is bumped into. */
        int bumpsOf(Moment moment, int way) {
            int target = moment.cell + way;
            if (way == 0 || moment.oil <= 0 || !canEnter(target)) {
                return 0;
            }
            int day = law.dayShown(moment.day, moment.oil, 1, moment.hour);
            int bumps = 0;
            for (int visitor = 0; visitor < visitors; visitor++) {
                if (days[visitor] == day && placeOf(visitor, moment.hour) == target) {
                    bumps += kinds[visitor] == CHILD_KIND ? 2 : 1;
                }
            }
            return bumps;
        }

        int walk(Moment moment, int way) {
            int bumps = bumpsOf(moment, way);
            if (bumps == 0 && canEnter(moment.cell + way)) {
                moment.cell += way;
            }
            moment.hour = (moment.hour + 1) % HOUR_COUNT;
            moment.steps++;
            moment.bumps += bumps;
            moment.oil = Math.max(0, moment.oil - 1);
            moment.seen |= seenBy(moment);
            return bumps;
        }

        /** CELLS that can't be entered, or not without a bump: all are entered from one off, where they are lit. */
        int closedCells(int day, int left, int hour) {
            return left > 0 ? pillars | cellsWithSomebody(law.dayShown(day, left, 1, hour), hour) : pillars;
        }
    }

    /** The E of shows, as a row of work for a stack: numbers are put on it, the rest are TOKENS below 0. */
    private static final class Law {
        private static final int MOST_WITHIN = 5;
        private static final int PART_LEVEL = 4;

        private final int[] code = new int[MOST_SIGNS];
        // Four values wait on each of the five depths at most, and one is in hand.
        private final int[] stack = new int[32];
        private int length;

        void clear() {
            empty();
            put(-DAY);
        }

        private boolean put(int work) {
            if (length < MOST_SIGNS) {
                code[length] = work;
                length++;
            }
            return true;
        }

        /** An E that is told takes the place of the one that stands without shows. */
        void empty() {
            length = 0;
        }

        /** An E is of level 0. Levels: 0 and, or; 1 one < or =; 2 + and -; 3 *; 4 a PART. */
        boolean readLevel(Reader reader, int level, int depth) {
            if (level >= PART_LEVEL) {
                return readPart(reader, depth);
            }
            if (!readLevel(reader, level + 1, depth)) {
                return false;
            }
            int most = level == 1 ? 1 : MOST_SIGNS;
            for (int i = 0; i < most && isOfLevel(reader.token, level); i++) {
                int work = reader.token;
                reader.advance();
                if (!readLevel(reader, level + 1, depth)) {
                    return false;
                }
                put(-work);
            }
            return true;
        }

        private static boolean isOfLevel(int token, int level) {
            switch (level) {
                case 0:
                    return token == AND || token == OR;
                case 1:
                    return token == LESS || token == EQUAL;
                case 2:
                    return token == PLUS || token == MINUS;
                default:
                    return token == TIMES;
            }
        }

        private boolean readPart(Reader reader, int depth) {
            int token = reader.token;
            if (!isFact(token) && token != NUMBER && token != NOT && token != OPEN) {
                return reader.refuse(CANNOT_STAND);
            }
            if (depth >= MOST_WITHIN) {
                return reader.refuse(ONE_TOO_MANY);
            }
            int number = reader.number;
            reader.advance();
            if (token == NOT) {
                return readPart(reader, depth + 1) && put(-NOT);
            }
            if (token != OPEN) {
                return put(isFact(token) ? -token : number);
            }
            if (!readLevel(reader, 0, depth + 1)) {
                return false;
            }
            // Not by take: calls would stand open one deeper than they may.
            if (reader.token != CLOSE) {
                return reader.refuse(CANNOT_STAND);
            }
            reader.advance();
            return true;
        }

        int dayShown(int day, int left, int far, int hour) {
            int top = 0;
            for (int i = 0; i < length && i < MOST_SIGNS; i++) {
                int work = code[i];
                if (work >= 0 || isFact(-work)) {
                    if (top < stack.length) {
                        stack[top] = work >= 0 ? work : factOf(-work, day, left, far, hour);
                        top++;
                    }
                } else if (work == -NOT && top >= 1) {
                    stack[top - 1] = stack[top - 1] == 0 ? 1 : 0;
                } else if (top >= 2) {
                    top--;
                    stack[top - 1] = joined(-work, stack[top - 1], stack[top]);
                }
            }
            int told = top > 0 ? stack[top - 1] : 0;
            return Math.max(0, Math.min(DAY_COUNT - 1, told));
        }

        private static boolean isFact(int token) {
            return token >= DAY && token <= HOUR;
        }

        private static int factOf(int fact, int day, int left, int far, int hour) {
            switch (fact) {
                case DAY:
                    return day;
                case LEFT:
                    return left;
                case FAR:
                    return far;
                default:
                    return hour;
            }
        }

        private static int joined(int work, int a, int b) {
            switch (work) {
                case AND:
                    return a != 0 && b != 0 ? 1 : 0;
                case OR:
                    return a != 0 || b != 0 ? 1 : 0;
                case LESS:
                    return a < b ? 1 : 0;
                case EQUAL:
                    return a == b ? 1 : 0;
                case PLUS:
                    return a + b;
                case MINUS:
                    return a - b;
                default:
                    return a * b;
            }
        }
    }

    /** The TAPE, cut into TOKENS one behind another, and the first FAULT among them. */
    private static final class Reader {
        // In the order of the constants CELLS to HOUR, a blank behind each.
        private static final String WORDS = "cells pillar visitor on goes vase at beam oil guard fellow shows back rest trim fill plain child lady thief not and or day left far hour ";
        private static final int MOST_LETTERS = 8;
        private static final int MOST_DIGITS = 4;
        private static final String SIGNS = "()<=+-*;";

        private final char[] tape = new char[MOST_SIGNS];
        private final long[] knownLetters = new long[OTHER_WORD];
        int length = 0;
        private int next = 0;
        int token = END;
        int place = 0;
        int number = 0;
        // The letters of a WORD, five bits each: two WORDS are alike if these are.
        long letters = 0;
        int fault = 0;

        Reader() {
            int word = 0;
            for (int i = 0; i < WORDS.length() && word < OTHER_WORD; i++) {
                if (WORDS.charAt(i) == ' ') {
                    word++;
                } else {
                    knownLetters[word] = withLetter(knownLetters[word], WORDS.charAt(i));
                }
            }
        }

        private static long withLetter(long letters, char letter) {
            return letters << 5 | letter - 'a' + 1;
        }

        void putBytes(long bytes) {
            for (int shift = 56; shift >= 0; shift -= 8) {
                int sign = (int) (bytes >>> shift & 255);
                if ((sign == 10 || sign >= 32 && sign <= 126) && length < MOST_SIGNS) {
                    tape[length] = (char) sign;
                    length++;
                }
            }
        }

        void begin() {
            next = 0;
            fault = 0;
            advance();
        }

        /** What reads the TAPE takes it. */
        int finish() {
            length = 0;
            return fault;
        }

        boolean isAtEnd() {
            return token == END || fault != 0;
        }

        /** Keeps the first FAULT alone; always false, so that what reads can end with it. */
        boolean refuse(int kind) {
            if (fault == 0) {
                fault = kind + 16 * place;
            }
            return false;
        }

        boolean take(int wanted) {
            if (token != wanted) {
                return refuse(CANNOT_STAND);
            }
            advance();
            return true;
        }

        /** Whether a NUMBER as told stands here; it is left standing, since more may be wrong with it. */
        boolean wantNumber(int least, int most) {
            if (token != NUMBER) {
                return refuse(CANNOT_STAND);
            }
            return number >= least && number <= most || refuse(NOT_AS_TOLD);
        }

        void advance() {
            while (next < length && (tape[next] == 10 || tape[next] == ' ')) {
                next++;
            }
            place = next;
            if (next >= length) {
                token = END;
            } else if (isLetter(tape[next])) {
                readWord();
            } else if (isDigit(tape[next])) {
                readNumber();
            } else {
                int sign = SIGNS.indexOf(tape[next]);
                token = sign >= 0 ? OPEN + sign : NO_TOKEN;
                next++;
            }
        }

        private static boolean isLetter(char sign) {
            return sign >= 'a' && sign <= 'z';
        }

        private static boolean isDigit(char sign) {
            return sign >= '0' && sign <= '9';
        }

        private void readNumber() {
            number = 0;
            while (next < length && isDigit(tape[next])) {
                // Ten times 9999 is still small; a longer NUMBER is none, so its value does not matter.
                number = number * 10 % 100000 + tape[next] - '0';
                next++;
            }
            token = next - place <= MOST_DIGITS ? NUMBER : NO_TOKEN;
        }

        private void readWord() {
            letters = 0;
            while (next < length && isLetter(tape[next])) {
                letters = withLetter(letters, tape[next]);
                next++;
            }
            token = next - place <= MOST_LETTERS ? OTHER_WORD : NO_TOKEN;
            for (int word = 0; word < OTHER_WORD && token == OTHER_WORD; word++) {
                if (knownLetters[word] == letters) {
                    token = word;
                }
            }
        }
    }

    /** Reads the lines of a HALL into one. */
    private static final class HallReader {
        private final Reader reader;
        private final Hall hall;
        private final long[] names = new long[MOST_VISITORS + MOST_VASES];
        private int named = 0;
        // Bits by the words that may be told but once.
        private int toldWords = 0;

        HallReader(Reader reader, Hall hall) {
            this.reader = reader;
            this.hall = hall;
        }

        /** The FAULT. */
        int readLines() {
            hall.clear();
            reader.begin();
            for (int i = 0; i <= MOST_SIGNS && !reader.isAtEnd(); i++) {
                if (readLine()) {
                    reader.take(SEMICOLON);
                }
            }
            return reader.finish();
        }

        private boolean readLine() {
            int word = reader.token;
            switch (word) {
                case PILLAR:
                    reader.advance();
                    return readPillar();
                case VISITOR:
                    return takeIfRoom(hall.visitors, MOST_VISITORS) && readVisitor();
                case VASE:
                    return takeIfRoom(hall.vases, MOST_VASES) && readVase();
                case FELLOW:
                    return takeOnce(word) && readFellow();
                case SHOWS:
                    hall.law.empty();
                    return takeOnce(word) && hall.law.readLevel(reader, 0, 0);
                case CELLS:
                case BEAM:
                case OIL:
                case GUARD:
                    return takeOnce(word) && readMeasure(word);
                default:
                    return reader.refuse(CANNOT_STAND);
            }
        }

        private boolean takeOnce(int word) {
            if ((toldWords >> word & 1) == 1) {
                return reader.refuse(TOLD_ALREADY);
            }
            toldWords |= 1 << word;
            reader.advance();
            return true;
        }

        private boolean takeIfRoom(int told, int most) {
            if (told >= most) {
                return reader.refuse(ONE_TOO_MANY);
            }
            reader.advance();
            return true;
        }

        private boolean readMeasure(int word) {
            int least = word == CELLS ? 2 : word == BEAM ? 1 : 0;
            int most = word == CELLS ? MOST_CELLS : word == BEAM ? 5 : word == OIL ? MOST_OIL : MOST_CELLS - 1;
            if (!reader.wantNumber(least, most)) {
                return false;
            }
            if (word == CELLS) {
                hall.cells = reader.number;
            } else if (word == BEAM) {
                hall.beam = reader.number;
            } else if (word == OIL) {
                hall.oil = reader.number;
            } else {
                hall.guard = reader.number;
            }
            reader.advance();
            return true;
        }

        private boolean readPillar() {
            if (!reader.wantNumber(0, MOST_CELLS - 1)) {
                return false;
            }
            int bit = 1 << reader.number;
            if ((hall.pillars & bit) != 0) {
                return reader.refuse(TOLD_ALREADY);
            }
            hall.pillars |= bit;
            reader.advance();
            return true;
        }

        private boolean readVisitor() {
            int visitor = hall.visitors;
            if (visitor >= MOST_VISITORS || !readName()) {
                return false;
            }
            if (reader.token < PLAIN || reader.token > THIEF) {
                return reader.refuse(CANNOT_STAND);
            }
            hall.kinds[visitor] = PLAIN_KIND + reader.token - PLAIN;
            reader.advance();
            if (!reader.take(ON) || !reader.wantNumber(0, DAY_COUNT - 1)) {
                return false;
            }
            hall.days[visitor] = reader.number;
            reader.advance();
            if (!reader.take(GOES)) {
                return false;
            }
            hall.hoursTold[visitor] = readCells(hall.places, visitor * HOUR_COUNT);
            hall.visitors++;
            return reader.fault == 0;
        }

        private boolean readVase() {
            int vase = hall.vases;
            if (vase >= MOST_VASES || !readName() || !reader.take(AT) || !reader.wantNumber(0, MOST_CELLS - 1)) {
                return false;
            }
            hall.vaseCells[vase] = reader.number;
            hall.vases++;
            reader.advance();
            return true;
        }

        private boolean readFellow() {
            hall.fellows = readCells(hall.fellowCells, 0);
            return reader.fault == 0;
        }

        /** Reads CELLS, an hour each, as long as NUMBERS stand there; how many. */
        private int readCells(int[] into, int first) {
            int told = 0;
            while (told <= HOUR_COUNT && (told == 0 || reader.token == NUMBER)) {
                if (!reader.wantNumber(0, MOST_CELLS - 1)) {
                    return 0;
                }
                if (told == HOUR_COUNT || first + told >= into.length) {
                    reader.refuse(ONE_TOO_MANY);
                    return 0;
                }
                into[first + told] = reader.number;
                told++;
                reader.advance();
            }
            return told;
        }

        private boolean readName() {
            // The facts of E are no words that a NAME must leave alone.
            if (reader.token < DAY || reader.token > OTHER_WORD) {
                return reader.refuse(CANNOT_STAND);
            }
            for (int i = 0; i < named && i < names.length; i++) {
                if (names[i] == reader.letters) {
                    return reader.refuse(TOLD_ALREADY);
                }
            }
            if (named < names.length) {
                names[named] = reader.letters;
                named++;
            }
            reader.advance();
            return true;
        }
    }

    /** The lines of a NIGHT, and what was found when it was last played. */
    private static final class Night {
        private final int[] acts = new int[MOST_LINES];
        private final int[] amounts = new int[MOST_LINES];
        int lines = 0;
        int firstFailed = NONE;
        int firstBump = NONE;

        /** The FAULT. */
        int readLines(Reader reader) {
            lines = 0;
            reader.begin();
            for (int i = 0; i <= MOST_SIGNS && !reader.isAtEnd(); i++) {
                if (readLine(reader)) {
                    reader.take(SEMICOLON);
                }
            }
            return reader.finish();
        }

        private boolean readLine(Reader reader) {
            int act = reader.token;
            if (act != ON && act != BACK && act != REST && act != TRIM && act != FILL) {
                return reader.refuse(CANNOT_STAND);
            }
            if (lines >= MOST_LINES) {
                return reader.refuse(ONE_TOO_MANY);
            }
            reader.advance();
            if (act == TRIM || act == FILL) {
                if (!reader.wantNumber(act == TRIM ? 0 : 1, act == TRIM ? DAY_COUNT - 1 : MOST_OIL)) {
                    return false;
                }
                amounts[lines] = reader.number;
                reader.advance();
            }
            acts[lines] = act;
            lines++;
            return true;
        }

        void play(Hall hall, Moment moment) {
            firstFailed = NONE;
            firstBump = NONE;
            for (int line = 0; line < lines && line < MOST_LINES; line++) {
                int act = acts[line];
                if (act == FILL) {
                    moment.fillBy(amounts[line]);
                } else if (act != TRIM) {
                    int bumps = hall.walk(moment, act == ON ? 1 : act == BACK ? -1 : 0);
                    if (bumps > 0 && firstBump == NONE) {
                        firstBump = line;
                    }
                } else if (moment.oil >= TRIM_OIL) {
                    moment.trimTo(amounts[line]);
                } else if (firstFailed == NONE) {
                    firstFailed = line;
                }
            }
        }
    }

    /** Looks for the fewest STEPS without a bump: hour and oil go on alike on all ways, so they are walked at once. */
    private static final class Walks {
        // A set of sets of VISITORS is a long, a bit for each; these are the sets with VISITOR 0 to 5 in them.
        private static final long[] SETS_WITH = {
            0xAAAAAAAAAAAAAAAAL, 0xCCCCCCCCCCCCCCCCL, 0xF0F0F0F0F0F0F0F0L,
            0xFF00FF00FF00FF00L, 0xFFFF0000FFFF0000L, 0xFFFFFFFF00000000L};

        // By CELLS: who can have been SEEN when he stands there, and one step on.
        private final long[] seenSets = new long[MOST_CELLS];
        private final long[] nextSets = new long[MOST_CELLS];

        int fewestToSee(Hall hall, Moment from, int wanted) {
            if ((from.seen & wanted) == wanted) {
                return 0;
            }
            Arrays.fill(seenSets, 0L);
            if (hall.hasCell(from.cell)) {
                seenSets[from.cell] = 1L << from.seen;
            }
            long goal = setsWithAll(wanted);
            int hour = from.hour;
            int left = from.oil;
            for (int steps = 1; steps <= FAR_AHEAD; steps++) {
                spread(hall.closedCells(from.day, left, hour) | ~hall.allCells());
                hour = (hour + 1) % HOUR_COUNT;
                left = Math.max(0, left - 1);
                if (left > 0) {
                    hall.tellDaysShown(from.day, left, hour);
                    look(hall, hour);
                }
                if (isReached(goal)) {
                    return steps;
                }
            }
            return NONE;
        }

        private static long setsWithAll(int wanted) {
            long sets = -1L;
            for (int i = 0; i < MOST_VISITORS; i++) {
                if ((wanted >> i & 1) == 1) {
                    sets &= SETS_WITH[i];
                }
            }
            return sets;
        }

        private void spread(int closed) {
            for (int cell = 0; cell < MOST_CELLS; cell++) {
                long sets = seenSets[cell];
                if ((closed >> cell & 1) == 0) {
                    sets |= cell > 0 ? seenSets[cell - 1] : 0L;
                    sets |= cell + 1 < MOST_CELLS ? seenSets[cell + 1] : 0L;
                }
                nextSets[cell] = sets;
            }
            System.arraycopy(nextSets, 0, seenSets, 0, MOST_CELLS);
        }

        private void look(Hall hall, int hour) {
            for (int cell = 0; cell < hall.cells && cell < MOST_CELLS; cell++) {
                if (seenSets[cell] != 0L) {
                    seenSets[cell] = withSeen(seenSets[cell], hall.seenIn(hall.lightFrom(cell), cell, hour));
                }
            }
        }

        private static long withSeen(long sets, int seen) {
            long result = sets;
            for (int i = 0; i < MOST_VISITORS; i++) {
                if ((seen >> i & 1) == 1) {
                    result = result & SETS_WITH[i] | (result & ~SETS_WITH[i]) << (1 << i);
                }
            }
            return result;
        }

        private boolean isReached(long goal) {
            for (int cell = 0; cell < MOST_CELLS; cell++) {
                if ((seenSets[cell] & goal) != 0L) {
                    return true;
                }
            }
            return false;
        }

        int fewestToStand(Hall hall, Moment from, int cell) {
            int stands = 1 << from.cell;
            int hour = from.hour;
            int left = from.oil;
            for (int steps = 0; steps <= FAR_AHEAD; steps++) {
                if ((stands >> cell & 1) == 1) {
                    return steps;
                }
                int open = hall.allCells() & ~hall.closedCells(from.day, left, hour);
                stands |= (stands << 1 | stands >> 1) & open;
                hour = (hour + 1) % HOUR_COUNT;
                left = Math.max(0, left - 1);
            }
            return NONE;
        }
    }
}
