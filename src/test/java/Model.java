import java.util.ArrayDeque;
import java.util.ArrayList;
import java.util.HashSet;
import java.util.List;
import java.util.Random;
import java.util.Set;

/** The document once more, as plainly and slowly as can be, to compare LanternHall with. */
final class Model {
    static final class Visitor {
        int kind;
        int day;
        int[] goes;
    }

    /** An E: a NUMBER, a fact, not, or two parts; put in brackets where it is told so. */
    static final class E {
        String op;
        int number;
        E a;
        E b;
        boolean brackets;

        int value(int day, int left, int far, int hour) {
            switch (op) {
                case "n": return number;
                case "day": return day;
                case "left": return left;
                case "far": return far;
                case "hour": return hour;
                case "not": return a.value(day, left, far, hour) == 0 ? 1 : 0;
                default:
            }
            int x = a.value(day, left, far, hour);
            int y = b.value(day, left, far, hour);
            switch (op) {
                case "and": return x != 0 && y != 0 ? 1 : 0;
                case "or": return x != 0 || y != 0 ? 1 : 0;
                case "<": return x < y ? 1 : 0;
                case "=": return x == y ? 1 : 0;
                case "+": return x + y;
                case "-": return x - y;
                default: return x * y;
            }
        }

        void tell(List<String> out) {
            if (brackets) {
                out.add("(");
            }
            if (op.equals("n")) {
                out.add(Integer.toString(number));
            } else if (op.equals("not")) {
                out.add("not");
                a.tell(out);
            } else if (a == null) {
                out.add(op);
            } else {
                a.tell(out);
                out.add(op);
                b.tell(out);
            }
            if (brackets) {
                out.add(")");
            }
        }
    }

    record Moment(int cell, int hour, int day, int oil, int steps, int bumps, int seen) {
    }

    record Said(int hour, int cell, boolean somebody) {
    }

    record Marked(Moment moment, List<Said> said) {
    }

    record Line(String act, int amount) {
    }

    int cells = 8;
    Set<Integer> pillars = new HashSet<>();
    List<Visitor> visitors = new ArrayList<>();
    List<Integer> vases = new ArrayList<>();
    int beam = 2;
    int oilTold = 30;
    int guard = 0;
    int[] fellow = null;
    E shows = null;

    Moment now;
    ArrayDeque<Moment> past = new ArrayDeque<>();
    List<Said> said = new ArrayList<>();
    Marked[] marks = new Marked[4];
    List<Line> night = new ArrayList<>();

    void begin() {
        now = first();
        past.clear();
        said = new ArrayList<>();
        marks = new Marked[4];
        night = new ArrayList<>();
    }

    Moment first() {
        return new Moment(Math.min(guard, cells - 1), 0, 0, oilTold, 0, 0, 0);
    }

    boolean pillar(int cell) {
        return cell < cells && pillars.contains(cell);
    }

    int place(int v, int hour) {
        if (v < 0 || v >= visitors.size() || hour < 0 || hour > 7) {
            return -1;
        }
        Visitor x = visitors.get(v);
        int cell = hour < x.goes.length ? x.goes[hour] : x.kind == 2 ? x.goes[x.goes.length - 1] : -1;
        return cell < cells ? cell : -1;
    }

    boolean lights(int from, int cell, Set<Integer> standing) {
        if (cell < 0 || cell >= cells || Math.abs(cell - from) > beam) {
            return false;
        }
        for (int between = Math.min(from, cell) + 1; between < Math.max(from, cell); between++) {
            if (standing.contains(between)) {
                return false;
            }
        }
        return true;
    }

    int lightBits(int from) {
        int bits = 0;
        for (int cell = 0; cell < cells; cell++) {
            bits |= lights(from, cell, pillars) ? 1 << cell : 0;
        }
        return bits;
    }

    int shownAt(Moment m, int cell) {
        int value = shows == null ? m.day : shows.value(m.day, m.oil, Math.abs(cell - m.cell), m.hour);
        return value < 0 ? 0 : value > 3 ? 3 : value;
    }

    int shown(int cell) {
        return now.oil > 0 && lights(now.cell, cell, pillars) ? shownAt(now, cell) : -1;
    }

    boolean isSeen(Moment m, int v, Set<Integer> standing) {
        int cell = place(v, m.hour);
        return m.oil > 0 && cell >= 0 && lights(m.cell, cell, standing) && shownAt(m, cell) == visitors.get(v).day;
    }

    int seenBits(Moment m, Set<Integer> standing) {
        int bits = 0;
        for (int v = 0; v < visitors.size(); v++) {
            bits |= isSeen(m, v, standing) ? 1 << v : 0;
        }
        return bits;
    }

    int vaseCell(int vase) {
        return vases.get(vase) < cells ? vases.get(vase) : -1;
    }

    int taken(int vase, int day, int what) {
        if (vase < 0 || vase >= vases.size() || day < 0 || day > 3 || what < 0 || what > 1 || vaseCell(vase) < 0) {
            return -1;
        }
        for (int hour = 0; hour < 8; hour++) {
            for (int v = 0; v < visitors.size(); v++) {
                Visitor x = visitors.get(v);
                if (x.kind == 3 && x.day == day && place(v, hour) == vaseCell(vase)) {
                    return what == 0 ? hour : v;
                }
            }
        }
        return -1;
    }

    int treasures() {
        int bits = 0;
        for (int vase = 0; vase < vases.size(); vase++) {
            int cell = vaseCell(vase);
            if (cell >= 0 && shown(cell) >= 0) {
                int hour = taken(vase, shown(cell), 0);
                bits |= hour < 0 || now.hour < hour ? 1 << vase : 0;
            }
        }
        return bits;
    }

    int bumps(Moment m, int way) {
        int to = m.cell + way;
        if (way == 0 || to < 0 || to >= cells || pillar(to)) {
            return 0;
        }
        int bumps = 0;
        for (int v = 0; v < visitors.size(); v++) {
            if (isSeen(m, v, pillars) && place(v, m.hour) == to) {
                bumps += visitors.get(v).kind == 1 ? 2 : 1;
            }
        }
        return bumps;
    }

    Moment walked(Moment m, int way) {
        int to = m.cell + way;
        int bumps = bumps(m, way);
        int cell = to < 0 || to >= cells || pillar(to) || bumps > 0 ? m.cell : to;
        int oil = m.oil > 0 ? m.oil - 1 : 0;
        Moment n = new Moment(cell, m.hour == 7 ? 0 : m.hour + 1, m.day, oil, m.steps + 1, m.bumps + bumps, m.seen);
        return new Moment(n.cell, n.hour, n.day, n.oil, n.steps, n.bumps, n.seen | seenBits(n, pillars));
    }

    static Moment trimmed(Moment m, int day) {
        return new Moment(m.cell, m.hour, day, m.oil - 2, m.steps, m.bumps, m.seen);
    }

    static Moment filled(Moment m, int more) {
        return new Moment(m.cell, m.hour, m.day, Math.min(99, m.oil + more), m.steps, m.bumps, m.seen);
    }

    private void become(Moment m) {
        past.addLast(now);
        if (past.size() > 16) {
            past.removeFirst();
        }
        now = m;
    }

    int step(int way) {
        if (way < -1 || way > 1) {
            return -1;
        }
        int before = now.bumps;
        become(walked(now, way));
        return now.bumps - before;
    }

    int trim(int day) {
        if (day < 0 || day > 3 || now.oil < 2) {
            return -1;
        }
        become(trimmed(now, day));
        return now.oil;
    }

    int fill(int more) {
        if (more < 1 || more > 99) {
            return -1;
        }
        become(filled(now, more));
        return now.oil;
    }

    boolean undo() {
        if (past.isEmpty()) {
            return false;
        }
        now = past.removeLast();
        return true;
    }

    int judged(int what) {
        if (what < 0 || what > 2) {
            return -2;
        }
        int cannot = -1;
        int bump = -1;
        Moment m = first();
        for (int i = 0; i < night.size(); i++) {
            Line line = night.get(i);
            Moment n = m;
            switch (line.act) {
                case "on": n = walked(m, 1); break;
                case "back": n = walked(m, -1); break;
                case "rest": n = walked(m, 0); break;
                case "fill": n = filled(m, line.amount); break;
                default:
                    if (m.oil >= 2) {
                        n = trimmed(m, line.amount);
                    } else if (cannot < 0) {
                        cannot = i;
                    }
            }
            if (n.bumps > m.bumps && bump < 0) {
                bump = i;
            }
            m = n;
        }
        return what == 0 ? cannot : what == 1 ? bump : m.seen;
    }

    int shortest(int wanted) {
        if (wanted < 0 || wanted >> visitors.size() != 0) {
            return -1;
        }
        Set<Moment> front = new HashSet<>();
        front.add(now);
        for (int steps = 0; steps <= 40; steps++) {
            Set<Moment> next = new HashSet<>();
            for (Moment m : front) {
                if ((m.seen & wanted) == wanted) {
                    return steps;
                }
                for (int way = -1; way <= 1; way++) {
                    if (bumps(m, way) == 0) {
                        next.add(walked(m, way));
                    }
                }
            }
            front = next;
        }
        return -1;
    }

    int reach(int cell) {
        if (cell < 0 || cell >= cells || pillar(cell)) {
            return -1;
        }
        Set<Moment> front = new HashSet<>();
        front.add(now);
        for (int steps = 0; steps <= 40; steps++) {
            Set<Moment> next = new HashSet<>();
            for (Moment m : front) {
                if (m.cell == cell) {
                    return steps;
                }
                for (int way = -1; way <= 1; way++) {
                    if (bumps(m, way) == 0) {
                        Moment n = walked(m, way);
                        next.add(new Moment(n.cell, n.hour, n.day, n.oil, n.steps, n.bumps, 0));
                    }
                }
            }
            front = next;
        }
        return -1;
    }

    int cover() {
        for (int size = 1; size <= cells; size++) {
            for (int set = 0; set < 1 << cells; set++) {
                if (Integer.bitCount(set) == size && covers(set)) {
                    return set;
                }
            }
        }
        return -1;
    }

    private boolean covers(int set) {
        int lit = 0;
        for (int cell = 0; cell < cells; cell++) {
            if ((set >> cell & 1) == 1) {
                if (pillar(cell)) {
                    return false;
                }
                lit |= lightBits(cell);
            }
        }
        return lit == (1 << cells) - 1;
    }

    boolean somebody(int day, int hour, int cell) {
        for (int v = 0; v < visitors.size(); v++) {
            if (visitors.get(v).day == day && place(v, hour) == cell) {
                return true;
            }
        }
        return false;
    }

    boolean say(int hour, int cell, boolean somebody) {
        if (hour < 0 || hour > 7 || cell < 0 || cell >= cells || said.size() == 8) {
            return false;
        }
        said.add(new Said(hour, cell, somebody));
        return true;
    }

    int days() {
        int bits = 0;
        for (int day = 0; day < 4; day++) {
            boolean so = true;
            for (Said s : said) {
                so &= somebody(day, s.hour, s.cell) == s.somebody;
            }
            bits |= so ? 1 << day : 0;
        }
        return bits;
    }

    int ask() {
        int all = Integer.bitCount(days());
        int least = all;
        int answer = -1;
        for (int place = 0; place < 8 * cells; place++) {
            int hour = place / cells;
            int cell = place % cells;
            int with = 0;
            for (int day = 0; day < 4; day++) {
                with += (days() >> day & 1) == 1 && somebody(day, hour, cell) ? 1 : 0;
            }
            int greater = Math.max(with, all - with);
            if (greater < least) {
                least = greater;
                answer = 12 * hour + cell;
            }
        }
        return answer;
    }

    int fellow(int hours) {
        if (hours < 0 || hours > 40 || fellow == null) {
            return -1;
        }
        return Math.min(cells - 1, fellow[(now.steps + hours) % fellow.length]);
    }

    int meet() {
        Moment m = now;
        for (int hours = 0; hours <= 40 && fellow != null; hours++) {
            if (m.oil > 0 && (lightBits(m.cell) & lightBits(fellow(hours))) != 0) {
                return hours;
            }
            m = walked(m, 0);
        }
        return -1;
    }

    int never() {
        int bits = 0;
        for (int cell = 0; cell < cells; cell++) {
            boolean lit = false;
            for (int i = 0; fellow != null && i < fellow.length; i++) {
                lit |= lights(Math.min(cells - 1, fellow[i]), cell, pillars);
            }
            bits |= lit ? 0 : 1 << cell;
        }
        return bits;
    }

    /** By going through all sets of VISITORS who come. */
    int chance(int vase, int day, int odds) {
        if (vase < 0 || vase >= vases.size() || day < 0 || day > 3 || odds < 0 || odds > 10) {
            return -1;
        }
        int n = visitors.size();
        long sum = 0;
        long all = 1;
        for (int i = 0; i < n; i++) {
            all *= 10;
        }
        for (int set = 0; set < 1 << n; set++) {
            long weight = 1;
            boolean taken = false;
            for (int v = 0; v < n; v++) {
                boolean comes = (set >> v & 1) == 1;
                weight *= comes ? odds : 10 - odds;
                Visitor x = visitors.get(v);
                for (int hour = 0; hour < 8; hour++) {
                    taken |= comes && x.kind == 3 && x.day == day && place(v, hour) >= 0
                            && place(v, hour) == vases.get(vase);
                }
            }
            sum += taken ? weight : 0;
        }
        return (int) (sum * 1000000 / all);
    }

    private boolean two(int v, int w) {
        return v >= 0 && w >= 0 && v < visitors.size() && w < visitors.size() && v != w
                && visitors.get(v).day == visitors.get(w).day;
    }

    int pass(int v, int w) {
        for (int hour = 0; hour < 8 && two(v, w); hour++) {
            if (place(v, hour) >= 0 && place(v, hour) == place(w, hour)) {
                return hour;
            }
        }
        return -1;
    }

    int follows(int v, int w) {
        if (!two(v, w)) {
            return -1;
        }
        int bits = 0;
        for (int hour = 1; hour < 8; hour++) {
            bits |= place(v, hour) >= 0 && place(v, hour) == place(w, hour - 1) ? 1 << hour : 0;
        }
        return bits;
    }

    int best() {
        int answer = -1;
        int most = -1;
        for (int cell = 0; cell < cells; cell++) {
            Moment m = new Moment(cell, now.hour, now.day, now.oil, 0, 0, 0);
            int seen = Integer.bitCount(seenBits(m, pillars));
            if (!pillar(cell) && seen > most) {
                most = seen;
                answer = cell;
            }
        }
        return answer;
    }

    int census(int day, int hour) {
        if (day < 0 || day > 3 || hour < 0 || hour > 7) {
            return -1;
        }
        int bits = 0;
        for (int v = 0; v < visitors.size(); v++) {
            bits |= visitors.get(v).day == day && place(v, hour) >= 0 ? 1 << v : 0;
        }
        return bits;
    }

    int lonely(int day) {
        int answer = -1;
        for (int hour = 0; hour < 8 && day >= 0 && day < 4; hour++) {
            if (answer < 0 || Integer.bitCount(census(day, hour)) < Integer.bitCount(census(day, answer))) {
                answer = hour;
            }
        }
        return answer;
    }

    int crowd(int day) {
        if (day < 0 || day > 3) {
            return -1;
        }
        int most = 0;
        for (int hour = 0; hour < 8; hour++) {
            int[] there = new int[12];
            for (int v = 0; v < visitors.size(); v++) {
                if (visitors.get(v).day == day && place(v, hour) >= 0) {
                    most = Math.max(most, ++there[place(v, hour)]);
                }
            }
        }
        return most;
    }

    int alibi(int v, int cell) {
        if (v < 0 || v >= visitors.size() || cell < 0 || cell >= cells) {
            return -1;
        }
        int bits = 0;
        for (int hour = 0; hour < 8; hour++) {
            bits |= place(v, hour) >= 0 && place(v, hour) != cell ? 1 << hour : 0;
        }
        return bits;
    }

    int blot() {
        int answer = -1;
        int most = -1;
        for (int cell = 0; cell < cells; cell++) {
            if (!pillar(cell)) {
                Set<Integer> more = new HashSet<>(pillars);
                more.add(cell);
                int hidden = Integer.bitCount(seenBits(now, pillars) & ~seenBits(now, more));
                if (hidden > most) {
                    most = hidden;
                    answer = cell;
                }
            }
        }
        return answer;
    }

    int gap(int day) {
        if (day < 0 || day > 3) {
            return -1;
        }
        int bits = 0;
        for (int cell = 0; cell < cells; cell++) {
            boolean ever = false;
            for (int hour = 0; hour < 8; hour++) {
                ever |= somebody(day, hour, cell);
            }
            bits |= ever ? 0 : 1 << cell;
        }
        return bits;
    }

    int same() {
        int pairs = 0;
        for (int a = 0; a < 4; a++) {
            for (int b = 0; b < a; b++) {
                boolean alike = true;
                for (int hour = 0; hour < 8; hour++) {
                    for (int cell = 0; cell < cells; cell++) {
                        alike &= somebody(a, hour, cell) == somebody(b, hour, cell);
                    }
                }
                pairs += alike ? 1 : 0;
            }
        }
        return pairs;
    }

    int wavers(int v) {
        if (v < 0 || v >= visitors.size()) {
            return -1;
        }
        List<Integer> ways = new ArrayList<>();
        for (int hour = 0; hour < 7; hour++) {
            int a = place(v, hour);
            int b = place(v, hour + 1);
            if (a >= 0 && b >= 0 && a != b) {
                ways.add(b > a ? 1 : -1);
            }
        }
        int turns = 0;
        for (int i = 1; i < ways.size(); i++) {
            turns += ways.get(i).intValue() != ways.get(i - 1).intValue() ? 1 : 0;
        }
        return turns;
    }

    int choose() {
        int answer = -1;
        int most = -1;
        for (int day = 0; day < 4 && now.oil >= 2; day++) {
            int seen = Integer.bitCount(seenBits(trimmed(now, day), pillars));
            if (seen > most) {
                most = seen;
                answer = day;
            }
        }
        return answer;
    }

    int exposed(int v) {
        if (v < 0 || v >= visitors.size()) {
            return -1;
        }
        int bits = 0;
        for (int hour = 0; hour < 8; hour++) {
            bits |= lights(now.cell, place(v, hour), pillars) ? 1 << hour : 0;
        }
        return bits;
    }

    int nights(int seed, int steps, int what) {
        if (seed < 0 || seed > 9999 || steps < 1 || steps > 99 || what < 0 || what > 2) {
            return -1;
        }
        java.math.BigInteger g = java.math.BigInteger.valueOf(seed);
        Moment m = now;
        for (int i = 0; i < steps; i++) {
            g = drawn(g);
            int act = g.intValue() / 65536 % 8;
            if (act == 7) {
                g = drawn(g);
                m = m.oil >= 2 ? trimmed(m, g.intValue() / 65536 % 4) : m;
            }
            m = walked(m, act <= 2 ? 1 : act <= 5 ? -1 : 0);
        }
        return what == 0 ? m.seen : what == 1 ? m.bumps - now.bumps : m.oil;
    }

    private static java.math.BigInteger drawn(java.math.BigInteger g) {
        return g.multiply(java.math.BigInteger.valueOf(1103515245L)).add(java.math.BigInteger.valueOf(12345))
                .mod(java.math.BigInteger.valueOf(2147483648L));
    }

    boolean mark(int mark, boolean back) {
        if (mark < 0 || mark > 3 || back && marks[mark] == null) {
            return false;
        }
        if (back) {
            now = marks[mark].moment;
            said = new ArrayList<>(marks[mark].said);
            past.clear();
        } else {
            marks[mark] = new Marked(now, new ArrayList<>(said));
        }
        return true;
    }

    int count(int what) {
        int standing = 0;
        for (int cell : pillars) {
            standing |= cell < cells ? 1 << cell : 0;
        }
        int[] all = {cells, visitors.size(), vases.size(), beam, now.cell, now.hour, now.day, now.oil, now.steps,
            now.bumps, now.seen, standing, night.size(), said.size(), past.size(), 0};
        return what < 0 || what > 15 ? -1 : all[what];
    }

    int visitor(int v, int what) {
        if (v < 0 || v >= visitors.size() || what < 0 || what > 4) {
            return -2;
        }
        int[] all = {visitors.get(v).kind, visitors.get(v).day, place(v, now.hour), now.seen >> v & 1,
            isSeen(now, v, pillars) ? 1 : 0};
        return all[what];
    }

    int vase(int vase, int what) {
        if (vase < 0 || vase >= vases.size() || what < 0 || what > 1) {
            return -2;
        }
        return what == 0 ? vaseCell(vase) : treasures() >> vase & 1;
    }

    static int rests(int both, int loses, int gets, int what) {
        int[][] first = {{0, gets}, {-loses, both}};
        List<Integer> found = new ArrayList<>();
        for (int a = 0; a < 2; a++) {
            for (int b = 0; b < 2; b++) {
                if (first[a][b] >= first[1 - a][b] && first[b][a] >= first[1 - b][a]) {
                    found.add(2 * a + b);
                }
            }
        }
        for (int pay : new int[] {both, loses, gets}) {
            if (pay < 0 || pay > 9) {
                return Check.THREW;
            }
        }
        if (what == -1) {
            return found.size();
        }
        return what < 0 || what >= found.size() ? Check.THREW : found.get(what);
    }

    // ---- made by chance

    static final String[] KINDS = {"plain", "child", "lady", "thief"};

    static Model random(Random r) {
        Model m = new Model();
        m.cells = r.nextInt(4) == 0 ? 8 : 2 + r.nextInt(11);
        int pillars = r.nextInt(4) == 0 ? r.nextInt(12) : r.nextInt(4);
        for (int i = 0; i < pillars; i++) {
            m.pillars.add(r.nextInt(12));
        }
        int near = 2 + r.nextInt(11);
        int days = 1 + r.nextInt(4);
        int visitors = r.nextInt(7);
        for (int i = 0; i < visitors; i++) {
            Visitor v = new Visitor();
            v.kind = r.nextInt(4);
            v.day = r.nextInt(days);
            v.goes = cellsOf(r, near);
            m.visitors.add(v);
        }
        int vases = r.nextInt(5);
        for (int i = 0; i < vases; i++) {
            m.vases.add(r.nextInt(near));
        }
        m.beam = r.nextInt(3) == 0 ? 2 : 1 + r.nextInt(5);
        m.oilTold = r.nextInt(3) == 0 ? r.nextInt(6) : r.nextInt(100);
        m.guard = r.nextInt(12);
        m.fellow = r.nextInt(4) == 0 ? null : cellsOf(r, 12);
        m.shows = r.nextInt(3) == 0 ? null : randomE(r, 0, 0);
        m.begin();
        return m;
    }

    private static int[] cellsOf(Random r, int near) {
        int[] goes = new int[1 + r.nextInt(8)];
        for (int h = 0; h < goes.length; h++) {
            goes[h] = r.nextInt(near);
        }
        return goes;
    }

    private static E leaf(Random r) {
        E e = new E();
        int k = r.nextInt(7);
        e.op = k < 2 ? "n" : k == 2 ? "day" : k == 3 ? "left" : k == 4 ? "far" : k == 5 ? "hour" : "day";
        e.number = r.nextInt(8) == 0 ? r.nextInt(10000) : r.nextInt(6);
        return e;
    }

    /** level 0 and, or; 1 < =; 2 + -; 3 *; 4 a PART. */
    static E randomE(Random r, int level, int depth) {
        if (level == 4) {
            int k = r.nextInt(6);
            if (depth < 4 && k == 0) {
                E e = new E();
                e.op = "not";
                e.a = randomE(r, 4, depth + 1);
                return e;
            }
            if (depth < 4 && k == 1) {
                E e = randomE(r, 0, depth + 1);
                if (e.brackets) {
                    // Brackets round brackets: one more part in between.
                    E wrapped = new E();
                    wrapped.op = "+";
                    wrapped.a = e;
                    wrapped.b = leaf(r);
                    e = wrapped;
                }
                e.brackets = true;
                return e;
            }
            return leaf(r);
        }
        E e = randomE(r, level + 1, depth);
        int more = r.nextInt(5) < 3 ? 0 : level == 1 ? 1 : 1 + r.nextInt(2);
        for (int i = 0; i < more; i++) {
            E join = new E();
            boolean second = r.nextBoolean();
            join.op = level == 0 ? second ? "and" : "or" : level == 1 ? second ? "<" : "="
                    : level == 2 ? second ? "+" : "-" : "*";
            join.a = e;
            join.b = randomE(r, level + 1, depth);
            e = join;
        }
        return e;
    }

    private static void numbers(List<String> out, int[] row) {
        for (int n : row) {
            out.add(Integer.toString(n));
        }
    }

    /** The HALL as TOKENS, its lines in an order by chance, but VISITORS and VASES by their numbers. */
    List<String> tell(Random r) {
        List<List<String>> lines = new ArrayList<>();
        if (cells != 8 || r.nextBoolean()) {
            lines.add(List.of("cells", "" + cells, ";"));
        }
        for (int p : pillars) {
            lines.add(List.of("pillar", "" + p, ";"));
        }
        if (beam != 2 || r.nextBoolean()) {
            lines.add(List.of("beam", "" + beam, ";"));
        }
        if (oilTold != 30 || r.nextBoolean()) {
            lines.add(List.of("oil", "" + oilTold, ";"));
        }
        if (guard != 0 || r.nextBoolean()) {
            lines.add(List.of("guard", "" + guard, ";"));
        }
        if (fellow != null) {
            List<String> line = new ArrayList<>(List.of("fellow"));
            numbers(line, fellow);
            line.add(";");
            lines.add(line);
        }
        if (shows != null) {
            List<String> line = new ArrayList<>(List.of("shows"));
            shows.tell(line);
            line.add(";");
            lines.add(line);
        }
        java.util.Collections.shuffle(lines, r);
        String[] names = {"day", "left", "far", "hour", "a", "b", "abcdefgh", "vis", "cell", "onn"};
        int from = 0;
        for (int i = 0; i < visitors.size(); i++) {
            Visitor v = visitors.get(i);
            List<String> line = new ArrayList<>(
                    List.of("visitor", names[i], KINDS[v.kind], "on", "" + v.day, "goes"));
            numbers(line, v.goes);
            line.add(";");
            from += r.nextInt(lines.size() - from + 1);
            lines.add(from++, line);
        }
        from = 0;
        for (int i = 0; i < vases.size(); i++) {
            from += r.nextInt(lines.size() - from + 1);
            lines.add(from++, List.of("vase", names[6 + i], "at", "" + vases.get(i), ";"));
        }
        List<String> all = new ArrayList<>();
        for (List<String> line : lines) {
            all.addAll(line);
        }
        return all;
    }

    /** TOKENS with blanks by chance: none where none is needed. */
    static String spaced(List<String> tokens, Random r) {
        StringBuilder text = new StringBuilder();
        for (String token : tokens) {
            if (text.length() > 0) {
                char last = text.charAt(text.length() - 1);
                char first = token.isEmpty() ? ';' : token.charAt(0);
                boolean needed = Character.isLetter(last) && Character.isLetter(first)
                        || Character.isDigit(last) && Character.isDigit(first);
                if (needed || r.nextInt(3) == 0) {
                    text.append(r.nextInt(5) == 0 ? '\n' : ' ');
                }
            }
            text.append(token);
        }
        if (r.nextInt(3) == 0) {
            text.append(" ");
        }
        return text.toString();
    }
}
