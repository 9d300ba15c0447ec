import java.math.BigInteger;
import java.util.ArrayList;
import java.util.Arrays;
import java.util.HashMap;
import java.util.LinkedHashMap;
import java.util.List;
import java.util.Map;
import java.util.Random;
import java.util.function.ToIntFunction;

/** A hall told plainly, and all its ways counted one by one: what the class answers is held against it. */
final class Model {
    static final BigInteger MOST_WAYS = BigInteger.TEN.pow(15);
    static final String[] RULES = {"lot", "left", "lazy", "beside", "recalls"};

    int boxes;
    int letters;
    int[] room;
    int[] weight;
    boolean[] told;
    int doorBox;
    int doorEvery;
    int movesEvery;
    final List<int[]> porters = new ArrayList<>(); // glances, rule, lazy
    final List<int[]> lays = new ArrayList<>();

    /** How the boxes are, what is remembered (-1 nothing), how many were returned. */
    record State(List<Integer> holds, int remembered, int returned) {
        int fullest() {
            int most = 0;
            for (int c : holds) {
                most = Math.max(most, c);
            }
            return most;
        }

        int empty() {
            int many = 0;
            for (int c : holds) {
                many += c == 0 ? 1 : 0;
            }
            return many;
        }

        int squares() {
            int sum = 0;
            for (int c : holds) {
                sum += c * c;
            }
            return sum;
        }
    }

    static Model random(Random r) {
        Model m = new Model();
        m.boxes = 1 + r.nextInt(r.nextBoolean() ? 3 : 5);
        m.letters = r.nextInt(m.boxes > 3 ? 6 : 9);
        m.room = new int[m.boxes];
        m.weight = new int[m.boxes];
        m.told = new boolean[m.boxes];
        boolean tight = r.nextInt(3) == 0;
        for (int b = 0; b < m.boxes; b++) {
            m.told[b] = r.nextInt(3) != 0;
            m.room[b] = m.told[b] ? 1 + r.nextInt(tight ? 3 : 8) : 8;
            m.weight[b] = m.told[b] ? 1 + r.nextInt(3) : 1;
        }
        if (r.nextInt(3) == 0) {
            m.doorBox = r.nextInt(m.boxes);
            m.doorEvery = 1 + r.nextInt(r.nextBoolean() ? 3 : 9);
        }
        if (r.nextInt(3) == 0) {
            m.movesEvery = 1 + r.nextInt(r.nextBoolean() ? 3 : 9);
        }
        int porters = 1 + r.nextInt(6);
        for (int p = 0; p < porters; p++) {
            int rule = r.nextInt(5);
            m.porters.add(new int[] {1 + r.nextInt(3), rule, rule == 2 ? r.nextInt(r.nextBoolean() ? 3 : 9) : -2});
        }
        int lays = r.nextInt(4) == 0 ? 0 : r.nextInt(9);
        for (int i = 0; i < lays; i++) {
            m.lays.add(m.randomLay(r));
        }
        return m;
    }

    private int[] randomLay(Random r) {
        int[] lay = new int[boxes];
        if (r.nextInt(6) == 0) {
            for (int b = 0; b < boxes; b++) {
                lay[b] = r.nextInt(9);
            }
            return lay;
        }
        int all = 0;
        for (int c : room) {
            all += c;
        }
        for (int i = 0; i < Math.min(all, letters); i++) {
            int b = r.nextInt(boxes);
            while (lay[b] >= room[b]) {
                b = r.nextInt(boxes);
            }
            lay[b]++;
        }
        return lay;
    }

    String text(Random r) {
        List<String> ahead = new ArrayList<>();
        List<String> behind = new ArrayList<>();
        for (int p = 0; p < porters.size(); p++) {
            int[] of = porters.get(p);
            behind.add("porter " + (char) ('a' + p) + "x draws " + of[0] + " " + RULES[of[1]] + (of[1] == 2 ? " " + of[2] : ""));
        }
        if (movesEvery > 0) {
            (r.nextBoolean() ? ahead : behind).add("moves every " + movesEvery);
        }
        ahead.add("hall boxes " + boxes + " letters " + letters);
        List<String> free = new ArrayList<>();
        for (int b = 0; b < boxes; b++) {
            if (told[b]) {
                free.add("box " + b + " room " + room[b] + " weight " + weight[b]);
            }
        }
        if (doorEvery > 0) {
            free.add("door " + doorBox + " every " + doorEvery);
        }
        java.util.Collections.shuffle(free, r);
        ahead.addAll(free);
        ahead.addAll(behind);
        for (int[] lay : lays) {
            StringBuilder line = new StringBuilder("lay ");
            for (int b = 0; b < boxes; b++) {
                line.append(b > 0 ? r.nextBoolean() ? "," : " , " : "").append(lay[b]);
            }
            ahead.add(line.toString());
        }
        return String.join(r.nextBoolean() ? ";" : " ; ", ahead);
    }

    boolean isDoors(int letter) {
        return doorEvery > 0 && letter % doorEvery == 0;
    }

    BigInteger ways(int[] porter, int k) {
        int all = Arrays.stream(weight).sum();
        BigInteger each = BigInteger.valueOf(all).pow(porter[0]);
        if (porter[1] == 0) {
            each = each.multiply(BigInteger.valueOf(new int[] {1, 1, 2, 6}[porter[0]]));
        }
        BigInteger ways = BigInteger.ONE;
        for (int letter = 1; letter <= k; letter++) {
            ways = isDoors(letter) ? ways : ways.multiply(each);
        }
        return ways;
    }

    boolean tooMany(int[] porter, int k) {
        return ways(porter, k).compareTo(MOST_WAYS) > 0;
    }

    /** The box of fewest letters, of like ones the least number. */
    static int emptiest(List<Integer> holds, Iterable<Integer> among) {
        int best = -1;
        for (int b : among) {
            if (best < 0 || holds.get(b) < holds.get(best) || (holds.get(b).equals(holds.get(best)) && b < best)) {
                best = b;
            }
        }
        return best;
    }

    /** The boxes that may be taken when these are drawn, each as likely. */
    List<Integer> taken(int[] porter, State s, List<Integer> drawn) {
        switch (porter[1]) {
            case 0: {
                int least = drawn.stream().mapToInt(s.holds::get).min().getAsInt();
                return drawn.stream().filter(b -> s.holds.get(b) == least).toList();
            }
            case 1:
                return List.of(emptiest(s.holds, drawn));
            case 2:
                for (int b : drawn) {
                    if (s.holds.get(b) <= porter[2]) {
                        return List.of(b);
                    }
                }
                return List.of(drawn.get(drawn.size() - 1));
            case 3: {
                List<Integer> looked = new ArrayList<>(drawn);
                for (int b : drawn) {
                    looked.add(b == boxes - 1 ? 0 : b + 1);
                }
                return List.of(emptiest(s.holds, looked));
            }
            default:
                return List.of(emptiest(s.holds, withRemembered(s, drawn)));
        }
    }

    static List<Integer> withRemembered(State s, List<Integer> drawn) {
        List<Integer> looked = new ArrayList<>(drawn);
        if (s.remembered >= 0) {
            looked.add(s.remembered);
        }
        return looked;
    }

    /** The box that has the letter; -1 if none has. */
    int box(State s, int taken) {
        for (int i = 0; i < boxes; i++) {
            int b = (taken + i) % boxes;
            if (s.holds.get(b) < room[b]) {
                return b;
            }
        }
        return -1;
    }

    /** What there is behind a letter for which a box was taken; drawn is null if the door had it. */
    State behind(int[] porter, State s, int letter, int taken, List<Integer> drawn) {
        List<Integer> holds = new ArrayList<>(s.holds);
        int to = box(s, taken);
        if (to >= 0) {
            holds.set(to, holds.get(to) + 1);
        }
        int remembered = s.remembered;
        if (drawn != null && porter[1] == 4) {
            remembered = emptiest(holds, withRemembered(s, drawn));
        }
        if (movesEvery > 0 && letter % movesEvery == 0) {
            int full = holds.indexOf(java.util.Collections.max(holds));
            int bare = holds.indexOf(java.util.Collections.min(holds));
            if (holds.get(full) >= holds.get(bare) + 2 && holds.get(bare) < room[bare]) {
                holds.set(full, holds.get(full) - 1);
                holds.set(bare, holds.get(bare) + 1);
            }
        }
        return new State(holds, remembered, s.returned + (to < 0 ? 1 : 0));
    }

    State start() {
        return new State(new ArrayList<>(java.util.Collections.nCopies(boxes, 0)), -1, 0);
    }

    private void draws(int left, List<Integer> drawn, long ways, Map<List<Integer>, Long> all) {
        if (left == 0) {
            all.put(new ArrayList<>(drawn), ways);
            return;
        }
        for (int b = 0; b < boxes; b++) {
            drawn.add(b);
            draws(left - 1, drawn, ways * weight[b], all);
            drawn.remove(drawn.size() - 1);
        }
    }

    Map<List<Integer>, Long> draws(int[] porter) {
        Map<List<Integer>, Long> all = new LinkedHashMap<>();
        draws(porter[0], new ArrayList<>(), 1, all);
        return all;
    }

    /** The ways behind each number of letters up to k. */
    List<Map<State, BigInteger>> days(int[] porter, int k) {
        List<Map<State, BigInteger>> days = new ArrayList<>();
        days.add(Map.of(start(), BigInteger.ONE));
        Map<List<Integer>, Long> draws = draws(porter);
        for (int letter = 1; letter <= k; letter++) {
            Map<State, BigInteger> next = new HashMap<>();
            for (Map.Entry<State, BigInteger> e : days.get(letter - 1).entrySet()) {
                if (isDoors(letter)) {
                    next.merge(behind(porter, e.getKey(), letter, doorBox, null), e.getValue(), BigInteger::add);
                    continue;
                }
                for (Map.Entry<List<Integer>, Long> d : draws.entrySet()) {
                    List<Integer> taken = taken(porter, e.getKey(), d.getKey());
                    // six parts, so that one, two or three may share them
                    BigInteger part = e.getValue().multiply(BigInteger.valueOf(d.getValue() * (6 / taken.size())));
                    for (int t : taken) {
                        next.merge(behind(porter, e.getKey(), letter, t, d.getKey()), part, BigInteger::add);
                    }
                }
            }
            days.add(next);
        }
        return days;
    }

    /** A mean in lowest terms. */
    static BigInteger[] mean(Map<State, BigInteger> ways, ToIntFunction<State> worth) {
        BigInteger upper = BigInteger.ZERO;
        BigInteger all = BigInteger.ZERO;
        for (Map.Entry<State, BigInteger> e : ways.entrySet()) {
            all = all.add(e.getValue());
            upper = upper.add(e.getValue().multiply(BigInteger.valueOf(worth.applyAsInt(e.getKey()))));
        }
        BigInteger common = upper.gcd(all);
        return new BigInteger[] {upper.divide(common), all.divide(common)};
    }
}
