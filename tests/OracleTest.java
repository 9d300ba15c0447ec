import java.math.BigInteger;
import java.util.ArrayList;
import java.util.Collections;
import java.util.List;
import java.util.Map;
import java.util.NoSuchElementException;
import java.util.Random;
import java.util.function.ToIntFunction;

/** Halls by lot, held against the Model, in which all ways are counted one by one. */
public final class OracleTest {
    private static int wrong = 0;
    private static String now = "";

    private static void due(String call, long got, long want) {
        if (got != want) {
            wrong++;
            System.out.println(now + "\n  " + call + " answered " + got + ", due is " + want);
        }
    }

    public static void main(String[] args) {
        int halls = args.length > 0 ? Integer.parseInt(args[0]) : 1200;
        EmptierOfTwo x = new EmptierOfTwo();
        for (int seed = 0; seed < halls && wrong < 20; seed++) {
            Random r = new Random(seed);
            Model m = Model.random(r);
            String text = m.text(r);
            now = "hall " + seed + ": " + text;
            due("hall", Tape.hall(x, text), m.porters.size());
            due("trouble", x.trouble(), 0);
            sizes(x, m);
            List<Map<Model.State, BigInteger>> ends = new ArrayList<>();
            for (int p = 0; p < m.porters.size(); p++) {
                List<Map<Model.State, BigInteger>> days = m.days(m.porters.get(p), m.letters);
                ends.add(days.get(m.letters));
                chances(x, m, p, days, r);
            }
            lays(x, m, ends);
            besides(x, m, r);
            DayWalk.walk(x, m, r, OracleTest::due);
        }
        System.out.println(wrong == 0 ? "OracleTest: all as due" : "OracleTest: " + wrong + " wrong");
        if (wrong != 0) {
            System.exit(1);
        }
    }

    private static void sizes(EmptierOfTwo x, Model m) {
        int[] want = {m.boxes, m.letters, m.porters.size(), m.lays.size(), 0, 0, 0, 0, 0, 0};
        for (int i = 0; i < 10; i++) {
            due("size(" + i + ")", x.size(i), want[i]);
        }
        for (int b = 0; b < m.boxes; b++) {
            due("boxOf room", x.boxOf(b, false), m.room[b]);
            due("boxOf weight", x.boxOf(b, true), m.weight[b]);
        }
        for (int p = 0; p < m.porters.size(); p++) {
            for (int what = 0; what < 3; what++) {
                due("porter", x.porter(p, what), m.porters.get(p)[what]);
            }
        }
    }

    interface Ask {
        long of(boolean lower);
    }

    private static void fraction(EmptierOfTwo x, String call, boolean refused, Map<Model.State, BigInteger> ways, ToIntFunction<Model.State> worth, Ask ask) {
        if (refused) {
            due(call, ask.of(false), -1);
            due(call + " trouble", x.trouble(), 3);
            due(call, ask.of(true), -1);
            return;
        }
        BigInteger[] want = Model.mean(ways, worth);
        due(call, ask.of(false), want[0].longValueExact());
        due(call + " lower", ask.of(true), want[1].longValueExact());
        due(call + " trouble", x.trouble(), 0);
    }

    private static void chances(EmptierOfTwo x, Model m, int p, List<Map<Model.State, BigInteger>> days, Random r) {
        for (int i = 0; i < 4; i++) {
            int k = i == 0 ? m.letters : r.nextInt(m.letters + 1);
            Map<Model.State, BigInteger> ways = days.get(k);
            boolean refused = m.tooMany(m.porters.get(p), k);
            int fullest = r.nextInt(10);
            fraction(x, "fullest " + p + " " + k + " " + fullest, refused, ways, s -> s.fullest() >= fullest ? 1 : 0, w -> x.fullest(p, k, fullest, w));
            int e = r.nextInt(6);
            fraction(x, "empty " + p + " " + k + " " + e, refused, ways, s -> s.empty() == e ? 1 : 0, w -> x.empty(p, k, e, w));
            int b = r.nextInt(m.boxes);
            int c = r.nextInt(r.nextBoolean() ? 4 : 9);
            fraction(x, "holds " + p + " " + k + " " + b + " " + c, refused, ways, s -> s.holds().get(b) == c ? 1 : 0, w -> x.holds(p, k, b, c, w));
            fraction(x, "mean 0 " + p + " " + k, refused, ways, s -> s.fullest(), w -> x.mean(p, k, 0, w));
            fraction(x, "mean 1 " + p + " " + k, refused, ways, s -> s.empty(), w -> x.mean(p, k, 1, w));
            fraction(x, "mean 2 " + p + " " + k, refused, ways, s -> s.returned(), w -> x.mean(p, k, 2, w));
            fraction(x, "mean 3 " + p + " " + k, refused, ways, s -> s.squares(), w -> x.mean(p, k, 3, w));
            due("states " + p + " " + k, x.states(p, k), refused ? -1 : ways.keySet().stream().map(Model.State::holds).distinct().count());
            due("worst " + p + " " + k, x.worst(p, k, false), refused ? -1 : ways.keySet().stream().mapToInt(Model.State::fullest).max().getAsInt());
            due("worst least " + p + " " + k, x.worst(p, k, true), refused ? -1 : ways.keySet().stream().mapToInt(Model.State::fullest).min().getAsInt());
            due("trouble", x.trouble(), refused ? 3 : 0);
            compare(x, m, p, r.nextInt(m.porters.size()), k, fullest);
        }
    }

    private static void compare(EmptierOfTwo x, Model m, int p, int q, int k, int fullest) {
        if (m.tooMany(m.porters.get(p), k) || m.tooMany(m.porters.get(q), k)) {
            due("compare", x.compare(p, q, k, fullest), -1);
            due("compare trouble", x.trouble(), 3);
            return;
        }
        BigInteger[] first = Model.mean(m.days(m.porters.get(p), k).get(k), s -> s.fullest() >= fullest ? 1 : 0);
        BigInteger[] second = Model.mean(m.days(m.porters.get(q), k).get(k), s -> s.fullest() >= fullest ? 1 : 0);
        int less = first[0].multiply(second[1]).compareTo(second[0].multiply(first[1]));
        due("compare " + p + " " + q + " " + k + " " + fullest, x.compare(p, q, k, fullest), 2 * less);
    }

    private static boolean isLay(Model.State s, int[] lay) {
        for (int b = 0; b < lay.length; b++) {
            if (s.holds().get(b) != lay[b]) {
                return false;
            }
        }
        return true;
    }

    private static void lays(EmptierOfTwo x, Model m, List<Map<Model.State, BigInteger>> ends) {
        boolean anyRefused = false;
        int best = -2;
        BigInteger[] greatest = {BigInteger.ZERO, BigInteger.ONE};
        for (int p = 0; p < m.porters.size(); p++) {
            int porter = p;
            boolean refused = m.tooMany(m.porters.get(p), m.letters);
            anyRefused |= refused;
            int cannot = 0;
            BigInteger[] all = {BigInteger.ONE, BigInteger.ONE};
            for (int i = 0; i < m.lays.size(); i++) {
                int lay = i;
                fraction(x, "lies " + p + " " + i, refused, ends.get(p), s -> isLay(s, m.lays.get(lay)) ? 1 : 0, w -> x.lies(porter, lay, w));
                BigInteger[] one = Model.mean(ends.get(p), s -> isLay(s, m.lays.get(lay)) ? 1 : 0);
                cannot |= one[0].signum() == 0 ? 1 << i : 0;
                all = new BigInteger[] {all[0].multiply(one[0]), all[1].multiply(one[1])};
            }
            due("cannot " + p, x.cannot(p), refused ? -1 : cannot);
            due("trouble", x.trouble(), refused ? 3 : 0);
            if (all[0].multiply(greatest[1]).compareTo(greatest[0].multiply(all[1])) > 0) {
                greatest = all;
                best = p;
            }
        }
        boolean none = m.lays.isEmpty();
        due("likely", x.likely(), none || anyRefused ? -1 : best);
        due("likely trouble", x.trouble(), none ? 6 : anyRefused ? 3 : 0);
    }

    private static void besides(EmptierOfTwo x, Model m, Random r) {
        int k = r.nextInt(m.letters + 1);
        for (int fullest = 1; fullest <= 9; fullest++) {
            int never = -2;
            for (int glances = 3; glances >= 1; glances--) {
                int most = 0;
                for (Model.State s : m.days(new int[] {glances, 1, -2}, k).get(k).keySet()) {
                    most = Math.max(most, s.fullest());
                }
                never = most < fullest ? glances : never;
            }
            due("never " + k + " " + fullest, x.never(k, fullest), never);
        }
        int glances = 1 + r.nextInt(3);
        int fullest = r.nextInt(10);
        if (m.tooMany(new int[] {glances, 2, 0}, k)) {
            due("best", x.best(glances, k, fullest), -1);
            due("trouble", x.trouble(), 3);
            due("bestChance", x.bestChance(glances, k, fullest, true), -1);
            due("trouble", x.trouble(), 3);
            return;
        }
        int best = -1;
        BigInteger[] least = null;
        for (int lazy = 0; lazy <= 8; lazy++) {
            BigInteger[] one = Model.mean(m.days(new int[] {glances, 2, lazy}, k).get(k), s -> s.fullest() >= fullest ? 1 : 0);
            if (least == null || one[0].multiply(least[1]).compareTo(least[0].multiply(one[1])) < 0) {
                least = one;
                best = lazy;
            }
        }
        due("best " + glances + " " + k + " " + fullest, x.best(glances, k, fullest), best);
        due("bestChance", x.bestChance(glances, k, fullest, false), least[0].longValueExact());
        due("bestChance lower", x.bestChance(glances, k, fullest, true), least[1].longValueExact());
    }

    interface Due {
        void is(String call, long got, long want);
    }

    /** Days by draws and by telling, with marks. */
    static final class DayWalk {
        private final Model m;
        private int porter = 0;
        private int seed = 0;
        private int letters = 0;
        private Model.State state;

        private DayWalk(Model m) {
            this.m = m;
            state = m.start();
        }

        private DayWalk copy() {
            DayWalk other = new DayWalk(m);
            other.porter = porter;
            other.seed = seed;
            other.letters = letters;
            other.state = state;
            return other;
        }

        private int draw() {
            seed = (int) ((75L * seed + 74) % 65537);
            return seed;
        }

        private int glance() {
            List<Integer> urn = new ArrayList<>();
            for (int b = 0; b < m.boxes; b++) {
                urn.addAll(Collections.nCopies(m.weight[b], b));
            }
            return urn.get(draw() % urn.size());
        }

        private void put() {
            int[] of = m.porters.get(porter);
            letters++;
            if (m.isDoors(letters)) {
                state = m.behind(of, state, letters, m.doorBox, null);
                return;
            }
            List<Integer> drawn = new ArrayList<>();
            for (int i = 0; i < of[0]; i++) {
                drawn.add(glance());
            }
            List<Integer> taken = m.taken(of, state, drawn);
            int pick = taken.size() > 1 ? draw() % taken.size() : 0;
            state = m.behind(of, state, letters, taken.get(pick), drawn);
        }

        /** The ways by which the next letter goes to a box, by what is remembered then; -1 as box: it is returned. */
        private Map<Integer, Long> next(int box) {
            Map<Integer, Long> next = new java.util.HashMap<>();
            int[] of = m.porters.get(porter);
            if (m.isDoors(letters + 1)) {
                if (m.box(state, m.doorBox) == box) {
                    next.put(state.remembered(), 1L);
                }
                return next;
            }
            for (Map.Entry<List<Integer>, Long> d : m.draws(of).entrySet()) {
                List<Integer> taken = m.taken(of, state, d.getKey());
                for (int t : taken) {
                    if (m.box(state, t) == box) {
                        int remembered = m.behind(of, state, letters + 1, t, d.getKey()).remembered();
                        next.merge(remembered, d.getValue() * (6 / taken.size()), Long::sum);
                    }
                }
            }
            return next;
        }

        private void seen(EmptierOfTwo x, Due due, int marks) {
            int[] want = {m.boxes, m.letters, m.porters.size(), m.lays.size(), porter, letters, state.returned(), seed, marks};
            for (int i = 0; i < want.length; i++) {
                due.is("size(" + i + ")", x.size(i), want[i]);
            }
            List<Integer> empty = new ArrayList<>();
            for (int b = 0; b < m.boxes; b++) {
                due.is("box " + b, x.box(b), state.holds().get(b));
                if (state.holds().get(b) == 0) {
                    empty.add(b);
                }
            }
            due.is("recall", x.recall(), state.remembered() < 0 ? -2 : state.remembered());
            for (int i = -1; i <= m.boxes; i++) {
                long got;
                try {
                    got = x.led(i);
                } catch (NoSuchElementException e) {
                    got = -7;
                }
                due.is("led " + i, got, i >= 0 && i < empty.size() ? empty.get(i) : -7);
            }
        }

        private void goes(EmptierOfTwo x, Due due) {
            if (letters >= m.letters) {
                due.is("goes", x.goes(0, false), -1);
                due.is("goes trouble", x.trouble(), 6);
                return;
            }
            long all = 0;
            long[] ways = new long[m.boxes];
            for (int b = -1; b < m.boxes; b++) {
                long sum = 0;
                for (long w : next(b).values()) {
                    sum += w;
                }
                all += sum;
                if (b >= 0) {
                    ways[b] = sum;
                }
            }
            for (int b = 0; b < m.boxes; b++) {
                long common = BigInteger.valueOf(ways[b]).gcd(BigInteger.valueOf(all)).longValueExact();
                due.is("goes " + b, x.goes(b, false), ways[b] / common);
                due.is("goes lower " + b, x.goes(b, true), all / common);
            }
        }

        private void place(EmptierOfTwo x, Due due, int box) {
            int got = x.place(box);
            if (letters >= m.letters) {
                due.is("place", got, -1);
                due.is("place trouble", x.trouble(), 6);
                return;
            }
            Map<Integer, Long> next = next(box);
            if (next.size() != 1) {
                due.is("place " + box, got, -1);
                due.is("place trouble", x.trouble(), 5);
                return;
            }
            int remembered = next.keySet().iterator().next();
            letters++;
            // the box itself has room, so that taking it is as good as any other way
            Model.State then = m.behind(m.porters.get(porter), state, letters, box, null);
            state = new Model.State(then.holds(), remembered, then.returned());
            due.is("place " + box, got, state.holds().get(box));
            due.is("place trouble", x.trouble(), 0);
        }

        /** What is counted between the letters of a day leaves the day alone. */
        private static void countAside(EmptierOfTwo x, Model m, Random r) {
            switch (r.nextInt(8)) {
                case 0:
                    x.best(1 + r.nextInt(3), r.nextInt(m.letters + 1), r.nextInt(10));
                    break;
                case 1:
                    x.never(r.nextInt(m.letters + 1), 1 + r.nextInt(9));
                    break;
                case 2:
                    x.states(r.nextInt(m.porters.size()), r.nextInt(m.letters + 1));
                    break;
                default:
            }
        }

        static void walk(EmptierOfTwo x, Model m, Random r, Due due) {
            DayWalk day = new DayWalk(m);
            List<DayWalk> marks = new ArrayList<>();
            for (int i = 0; i < 40; i++) {
                countAside(x, m, r);
                switch (r.nextInt(8)) {
                    case 0: {
                        int p = r.nextInt(m.porters.size());
                        int seed = r.nextInt(4) == 0 ? 65536 : r.nextInt(65537);
                        due.is("day", x.day(p, seed) ? 1 : 0, 1);
                        day = new DayWalk(m);
                        day.porter = p;
                        day.seed = seed;
                        break;
                    }
                    case 1:
                    case 2: {
                        int n = 1 + r.nextInt(r.nextInt(4) == 0 ? 8 : 2);
                        int many = Math.min(n, m.letters - day.letters);
                        due.is("put " + n, x.put(n), many == 0 ? -1 : many);
                        due.is("put trouble", x.trouble(), many == 0 ? 6 : 0);
                        for (int j = 0; j < many; j++) {
                            day.put();
                        }
                        break;
                    }
                    case 3:
                    case 4:
                        day.place(x, due, r.nextInt(m.boxes));
                        break;
                    case 5:
                        due.is("mark", x.mark(), marks.size() < 3 ? marks.size() : -1);
                        if (marks.size() < 3) {
                            marks.add(day.copy());
                        }
                        break;
                    case 6: {
                        int mark = r.nextInt(4) - 1;
                        boolean is = mark >= 0 && mark < marks.size();
                        due.is("back " + mark, x.back(mark) ? 1 : 0, is ? 1 : 0);
                        due.is("back trouble", x.trouble(), is ? 0 : 1);
                        if (is) {
                            day = marks.get(mark).copy();
                        }
                        break;
                    }
                    default:
                        day.goes(x, due);
                }
                day.seen(x, due, marks.size());
            }
        }
    }
}
