import java.util.ArrayList;
import java.util.List;
import java.util.Random;

/** LanternHall against Model: halls, nights and calls by chance (the same ones each time). */
public final class ModelTest {
    private static final int HALLS = 1500;

    public static void main(String[] args) {
        int halls = args.length > 0 ? Integer.parseInt(args[0]) : HALLS;
        int from = args.length > 1 ? Integer.parseInt(args[1]) : 0;
        for (int i = from; i < from + halls; i++) {
            oneHall(new Random(7000 + i), "hall " + i);
        }
        restsByAll();
        Check.end("ModelTest");
    }

    /** One object is asked at first, one behind some acts: so each answers fewer than 512 calls. */
    private static void oneHall(Random r, String run) {
        // A HALL ahead of the one that is tried, often a larger one, must leave nothing behind.
        Model ahead = Model.random(r);
        String aheadText = Model.spaced(ahead.tell(r), r);
        Model m = Model.random(r);
        String text = Model.spaced(m.tell(r), r);
        if (text.length() > 1000 || aheadText.length() > 1000) {
            return;
        }
        String told = run + " '" + text + "'";
        LanternHall x = told(r, told, aheadText, text);
        tellNight(x, m, r);
        ask(x, m, r, told + " at first");
        m.begin();
        x = told(r, told, aheadText, text);
        StringBuilder done = new StringBuilder();
        int acts = r.nextInt(25);
        for (int i = 0; i < acts; i++) {
            act(x, m, r, told, done);
        }
        ask(x, m, r, told + done);
    }

    private static LanternHall told(Random r, String told, String aheadText, String text) {
        LanternHall x = new LanternHall();
        if (r.nextBoolean()) {
            Check.same("ahead '" + aheadText + "'", Check.tellHall(x, aheadText), 0);
            x.shortest(1);
            x.step(1);
            x.mark(1, false);
            x.say(0, 0, true);
        }
        Check.same(told + " hall()", Check.tellHall(x, text), 0);
        return x;
    }

    private static void tellNight(LanternHall x, Model m, Random r) {
        List<String> tokens = new ArrayList<>();
        List<Model.Line> lines = new ArrayList<>();
        int n = r.nextInt(4) == 0 ? 0 : r.nextInt(41);
        String[] acts = {"on", "back", "rest", "trim", "fill", "on", "back", "on"};
        for (int i = 0; i < n; i++) {
            String act = acts[r.nextInt(8)];
            int amount = act.equals("trim") ? r.nextInt(4) : 1 + r.nextInt(r.nextInt(3) == 0 ? 99 : 3);
            lines.add(new Model.Line(act, amount));
            tokens.add(act);
            if (act.equals("trim") || act.equals("fill")) {
                tokens.add("" + amount);
            }
            tokens.add(";");
        }
        if (n > 0) {
            Check.same("night()", Check.tellNight(x, Model.spaced(tokens, r)), 0);
            m.night = lines;
        }
    }

    private static void act(LanternHall x, Model m, Random r, String told, StringBuilder done) {
        int k = r.nextInt(14);
        if (k < 7) {
            int way = r.nextInt(12) == 0 ? 2 : r.nextInt(3) - 1;
            done.append(" step ").append(way);
            Check.same(told + done, x.step(way), m.step(way));
        } else if (k < 9) {
            int day = r.nextInt(5);
            done.append(" trim ").append(day);
            Check.same(told + done, x.trim(day), m.trim(day));
        } else if (k == 9) {
            int more = r.nextInt(3) == 0 ? r.nextInt(102) - 1 : r.nextInt(6);
            done.append(" fill ").append(more);
            Check.same(told + done, x.fill(more), m.fill(more));
        } else if (k == 10) {
            done.append(" undo");
            Check.same(told + done, x.undo(), m.undo());
        } else if (k < 13) {
            int mark = r.nextInt(5);
            boolean back = r.nextInt(3) == 0;
            done.append(" mark ").append(mark).append(back);
            Check.same(told + done, x.mark(mark, back), m.mark(mark, back));
        } else {
            int hour = r.nextInt(9);
            int cell = r.nextInt(13);
            boolean somebody = r.nextInt(4) == 0;
            done.append(" say ").append(hour).append(' ').append(cell).append(somebody);
            Check.same(told + done, x.say(hour, cell, somebody), m.say(hour, cell, somebody));
        }
        for (int i = 0; i < 4; i++) {
            int what = 4 + r.nextInt(11);
            Check.same(told + done + " count " + what, x.count(what), m.count(what));
        }
    }

    private static void ask(LanternHall x, Model m, Random r, String told) {
        for (int what = -1; what <= 16; what++) {
            Check.same(told + " count " + what, x.count(what), what == 15 ? 0 : m.count(what));
        }
        whole(x, m, told);
        for (int v = -1; v <= m.visitors.size(); v++) {
            ofVisitor(x, m, r, told + " visitor " + v, v);
        }
        for (int day = -1; day <= 4; day++) {
            Check.same(told + " lonely " + day, x.lonely(day), m.lonely(day));
            Check.same(told + " crowd " + day, x.crowd(day), m.crowd(day));
            Check.same(told + " gap " + day, x.gap(day), m.gap(day));
            int hour = r.nextInt(10) - 1;
            Check.same(told + " census " + day + " " + hour, x.census(day, hour), m.census(day, hour));
        }
        for (int vase = -1; vase <= m.vases.size(); vase++) {
            ofVase(x, m, r, told + " vase " + vase, vase);
        }
        for (int cell = -1; cell <= m.cells; cell++) {
            Check.same(told + " shown " + cell, x.shown(cell), m.shown(cell));
            Check.same(told + " reach " + cell, x.reach(cell), m.reach(cell));
        }
        for (int way = -2; way <= 2; way++) {
            Check.same(told + " would " + way, x.would(way), way < -1 || way > 1 ? -1 : m.bumps(m.now, way));
        }
        int some = r.nextInt(70) - 3;
        Check.same(told + " shortest " + some, x.shortest(some), m.shortest(some));
        int full = (1 << m.visitors.size()) - 1;
        Check.same(told + " shortest " + full, x.shortest(full), m.shortest(full));
        int hours = r.nextInt(44) - 1;
        Check.same(told + " fellow " + hours, x.fellow(hours), m.fellow(hours));
        int seed = r.nextInt(10002) - 1;
        int steps = r.nextInt(102) - 1;
        for (int what = -1; what <= 3; what++) {
            Check.same(told + " nights " + seed + " " + steps + " " + what,
                    x.nights(seed, steps, what), m.nights(seed, steps, what));
            Check.same(told + " judged " + what, x.judged(what), m.judged(what));
        }
    }

    private static void whole(LanternHall x, Model m, String told) {
        Check.same(told + " light", x.light(), m.now.oil() > 0 ? m.lightBits(m.now.cell()) : 0);
        Check.same(told + " sees", x.sees(), m.seenBits(m.now, m.pillars));
        Check.same(told + " treasures", x.treasures(), m.treasures());
        Check.same(told + " cover", x.cover(), m.cover());
        Check.same(told + " days", x.days(), m.days());
        Check.same(told + " ask", x.ask(), m.ask());
        Check.same(told + " meet", x.meet(), m.meet());
        Check.same(told + " never", x.never(), m.never());
        Check.same(told + " best", x.best(), m.best());
        Check.same(told + " blot", x.blot(), m.blot());
        Check.same(told + " same", x.same(), m.same());
        Check.same(told + " choose", x.choose(), m.choose());
    }

    private static void ofVisitor(LanternHall x, Model m, Random r, String told, int v) {
        for (int what = -1; what <= 5; what++) {
            Check.same(told + " what " + what, x.visitor(v, what), m.visitor(v, what));
        }
        int hour = r.nextInt(10) - 1;
        Check.same(told + " at " + hour, x.at(v, hour), m.place(v, hour));
        int cell = r.nextInt(14) - 1;
        Check.same(told + " alibi " + cell, x.alibi(v, cell), m.alibi(v, cell));
        int other = r.nextInt(m.visitors.size() + 2) - 1;
        Check.same(told + " pass " + other, x.pass(v, other), m.pass(v, other));
        Check.same(told + " follows " + other, x.follows(v, other), m.follows(v, other));
        Check.same(told + " wavers", x.wavers(v), m.wavers(v));
        Check.same(told + " exposed", x.exposed(v), m.exposed(v));
    }

    private static void ofVase(LanternHall x, Model m, Random r, String told, int vase) {
        for (int what = -1; what <= 2; what++) {
            Check.same(told + " what " + what, x.vase(vase, what), m.vase(vase, what));
            int day = r.nextInt(6) - 1;
            Check.same(told + " taken " + day + " " + what, x.taken(vase, day, what), m.taken(vase, day, what));
            int odds = r.nextInt(13) - 1;
            Check.same(told + " chance " + day + " " + odds, x.chance(vase, day, odds), m.chance(vase, day, odds));
        }
    }

    private static void restsByAll() {
        for (int both = -1; both <= 10; both++) {
            for (int loses = -1; loses <= 10; loses++) {
                LanternHall x = new LanternHall();
                for (int gets = -1; gets <= 10; gets++) {
                    for (int what = -2; what <= 4; what++) {
                        Check.same("rests " + both + " " + loses + " " + gets + " " + what,
                                Check.rests(x, both, loses, gets, what), Model.rests(both, loses, gets, what));
                    }
                }
            }
        }
    }
}
