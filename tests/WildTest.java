import java.util.NoSuchElementException;
import java.util.Random;

/** Calls with any arguments, in any state: nothing is thrown but by led, and a refused call changes nothing. */
public final class WildTest {
    private static int wrong = 0;

    private static int any(Random r) {
        switch (r.nextInt(12)) {
            case 0:
                return r.nextInt();
            case 1:
                return Integer.MIN_VALUE;
            case 2:
                return Integer.MAX_VALUE;
            case 3:
                return -1 - r.nextInt(3);
            case 4:
                return r.nextInt(70000);
            default:
                return r.nextInt(10);
        }
    }

    private static String seen(EmptierOfTwo x) {
        StringBuilder s = new StringBuilder();
        for (int what = 0; what < 9; what++) {
            s.append(x.size(what)).append(' ');
        }
        for (int i = 0; i < 5; i++) {
            try {
                s.append(x.led(i)).append(' ');
            } catch (NoSuchElementException e) {
                s.append("- ");
            }
        }
        return s.toString();
    }

    private static long call(EmptierOfTwo x, int which, Random r) {
        boolean w = r.nextBoolean();
        switch (which) {
            case 0:
                return x.feed(r.nextInt(), any(r), any(r), any(r), r.nextInt());
            case 1:
                return x.hall(any(r));
            case 2:
                return x.fullest(any(r), any(r), any(r), w);
            case 3:
                return x.empty(any(r), any(r), any(r), w);
            case 4:
                return x.holds(any(r), any(r), any(r), any(r), w);
            case 5:
                return x.mean(any(r), any(r), any(r), w);
            case 6:
                return x.states(any(r), any(r));
            case 7:
                return x.worst(any(r), any(r), w);
            case 8:
                return x.lies(any(r), any(r), w);
            case 9:
                return x.compare(any(r), any(r), any(r), any(r));
            case 10:
                return x.never(any(r), any(r));
            case 11:
                return x.best(any(r), any(r), any(r));
            case 12:
                return x.bestChance(any(r), any(r), any(r), w);
            case 13:
                return x.likely();
            case 14:
                return x.cannot(any(r));
            case 15:
                return x.day(any(r), any(r)) ? 1 : -1;
            case 16:
                return x.put(any(r));
            case 17:
                return x.goes(any(r), w);
            case 18:
                return x.place(any(r));
            case 19:
                return x.box(any(r));
            case 20:
                return x.recall();
            case 21:
                return x.mark();
            case 22:
                return x.back(any(r)) ? 1 : -1;
            case 23:
                return x.porter(any(r), any(r));
            case 24:
                return x.boxOf(any(r), w);
            case 25:
                return x.size(any(r));
            case 26:
                return x.fault() + x.where() + x.trouble();
            default:
                try {
                    return x.led(any(r));
                } catch (NoSuchElementException e) {
                    return -1;
                }
        }
    }

    public static void main(String[] args) {
        int runs = args.length > 0 ? Integer.parseInt(args[0]) : 1500;
        for (int seed = 0; seed < runs && wrong < 20; seed++) {
            Random r = new Random(seed);
            EmptierOfTwo x = new EmptierOfTwo();
            for (int i = 0; i < 512; i++) {
                if (r.nextInt(120) == 0) {
                    Model m = Model.random(r);
                    if (Tape.hall(x, m.text(r)) != m.porters.size() && x.size(9) > 0) {
                        x.hall(x.size(9));
                    }
                    continue;
                }
                String before = seen(x);
                int which = r.nextInt(28);
                long got = call(x, which, r);
                boolean changes = which == 1 || which == 15 || which == 16 || which == 18 || which == 21 || which == 22;
                if ((!changes || got == -1) && !seen(x).equals(before)) {
                    wrong++;
                    System.out.println("run " + seed + ": call " + which + " changed " + before + " into " + seen(x));
                }
                if (x.trouble() < 0 || x.trouble() > 6) {
                    wrong++;
                    System.out.println("run " + seed + ": trouble " + x.trouble());
                }
            }
        }
        System.out.println(wrong == 0 ? "WildTest: all as due" : "WildTest: " + wrong + " wrong");
        if (wrong != 0) {
            System.exit(1);
        }
    }
}
