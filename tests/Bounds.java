import java.util.NoSuchElementException;

/** One sentence of the document after the other, each with an object of its own; what isn't as due is told with it. */
final class Bounds {
    static final int NOTHING_LED = -7;
    static final int BIG = Integer.MAX_VALUE;
    static final int SMALL = Integer.MIN_VALUE;

    private final String name;
    private String sentence = "";
    private int sentences = 0;
    private int wrong = 0;
    EmptierOfTwo x = new EmptierOfTwo();

    Bounds(String name) {
        this.name = name;
    }

    interface Ask {
        long of(boolean lower);
    }

    /** Begins the test of a sentence: a new object without a hall. */
    void of(String words) {
        sentence = words;
        sentences++;
        x = new EmptierOfTwo();
    }

    void of(String words, String text) {
        of(words);
        hall(text);
    }

    void due(String call, long got, long want) {
        if (got != want) {
            wrong++;
            System.out.println(name + " (" + sentence + "): " + call + " answered " + got + ", due is " + want);
        }
    }

    void due(String call, boolean got, boolean want) {
        due(call, got ? 1 : 0, want ? 1 : 0);
    }

    /** A call that isn't refused. */
    void fine(String call, long got, long want) {
        due(call, got, want);
        due(call + " trouble", x.trouble(), 0);
        due(call + " where", x.where(), -1);
    }

    void fine(String call, boolean got) {
        fine(call, got ? 1 : 0, 1);
    }

    void refused(String call, long got, int trouble) {
        due(call, got, -1);
        due(call + " trouble", x.trouble(), trouble);
        due(call + " where", x.where(), -1);
    }

    void refused(String call, boolean got, int trouble) {
        refused(call, got ? 1 : -1, trouble);
    }

    void chance(String call, Ask ask, long upper, long lower) {
        fine(call + " upper", ask.of(false), upper);
        fine(call + " lower", ask.of(true), lower);
    }

    void noChance(String call, Ask ask, int trouble) {
        refused(call + " upper", ask.of(false), trouble);
        refused(call + " lower", ask.of(true), trouble);
    }

    /** A text that is a hall. */
    void hall(String text) {
        int porters = 0;
        for (String line : text.split(";")) {
            porters += line.trim().startsWith("porter") ? 1 : 0;
        }
        fine("\"" + text + "\"", Tape.hall(x, text), porters);
        due("\"" + text + "\" fault", x.fault(), 0);
    }

    /** A text that isn't: ^ stands ahead of the place of its fault. */
    void fault(String marked, int number) {
        int place = marked.indexOf('^');
        String text = marked.substring(0, place) + marked.substring(place + 1);
        due("\"" + marked + "\"", Tape.hall(x, text), -1);
        due("\"" + marked + "\" trouble", x.trouble(), 4);
        due("\"" + marked + "\" fault", x.fault(), number);
        due("\"" + marked + "\" where", x.where(), place);
    }

    void led(int i, int want) {
        int got;
        try {
            got = x.led(i);
        } catch (NoSuchElementException e) {
            got = NOTHING_LED;
        }
        due("led(" + i + ")", got, want);
    }

    /** How many letters each box has now. */
    void boxes(int... want) {
        for (int b = 0; b < want.length; b++) {
            due("box(" + b + ")", x.box(b), want[b]);
        }
    }

    /** Letters that are placed one by one, each in a box that it may go to. */
    void place(int... boxes) {
        for (int b : boxes) {
            int before = x.size(5);
            due("place(" + b + ")", x.place(b) > 0, true);
            due("letters", x.size(5), before + 1);
        }
    }

    void end() {
        System.out.println(name + ": " + sentences + " sentences, " + (wrong == 0 ? "all as due" : wrong + " wrong"));
        if (wrong != 0) {
            System.exit(1);
        }
    }
}
