import java.util.NoSuchElementException;

/** Each promise by hand: ordinary calls, the edges that the document names, and wrong arguments. */
public final class PromisesTest {
    private static int wrong = 0;
    private static int promise = 0;
    private static EmptierOfTwo x = new EmptierOfTwo();

    private static final String RULES = "porter lt draws 2 lot;porter lf draws 2 left;porter lz draws 2 lazy 0;porter bs draws 2 beside;porter rc draws 2 recalls";
    private static final int BIG = Integer.MAX_VALUE;
    private static final int SMALL = Integer.MIN_VALUE;

    private static void due(String call, long got, long want) {
        if (got != want) {
            wrong++;
            System.out.println("promise " + promise + ": " + call + " answered " + got + ", due is " + want);
        }
    }

    private static void due(String call, boolean got, boolean want) {
        due(call, got ? 1 : 0, want ? 1 : 0);
    }

    /** A call that is refused, and its TROUBLE. */
    private static void refused(String call, long got, int trouble) {
        due(call, got, -1);
        due(call + " trouble", x.trouble(), trouble);
    }

    private static void refused(String call, boolean got, int trouble) {
        due(call, got, false);
        due(call + " trouble", x.trouble(), trouble);
    }

    private static void chance(String call, long upper, long lower, long wantUpper, long wantLower) {
        due(call + " upper", upper, wantUpper);
        due(call + " lower", lower, wantLower);
        due(call + " trouble", x.trouble(), 0);
    }

    private static void start(int number, String text) {
        promise = number;
        x = new EmptierOfTwo();
        if (!text.isEmpty()) {
            due("hall", Tape.hall(x, text) > 0, true);
        }
    }

    private static void led(int i, int want) {
        int got;
        try {
            got = x.led(i);
        } catch (NoSuchElementException e) {
            got = -7;
        }
        due("led(" + i + ")", got, want);
    }

    public static void main(String[] args) {
        hallCalls();
        chanceCalls();
        meanCalls();
        rules();
        porterCalls();
        dayCalls();
        markCalls();
        seenCalls();
        System.out.println(wrong == 0 ? "PromisesTest: all as due" : "PromisesTest: " + wrong + " wrong");
        if (wrong != 0) {
            System.exit(1);
        }
    }

    private static void hallCalls() {
        start(1, "");
        for (int what = 0; what <= 9; what++) {
            due("size", x.size(what), 0);
        }
        due("trouble", x.trouble(), 0);
        due("fault", x.fault(), 0);
        due("where", x.where(), -1);
        due("NONE", EmptierOfTwo.NONE, -1);
        noHall();

        start(2, "");
        due("feed", x.feed(0x68616c6c, 0x20626f78, 0x65732031, 0x206c6574, 0x74657273), 20);
        due("feed", x.feed(0x20313b70, 0x6f727465, 0x72206120, 0x64726177, 0x73203120), 40);
        due("feed", x.feed(0x6c6f7400, -1, SMALL, BIG, 0), 60);
        due("size(9)", x.size(9), 60);
        due("hall", x.hall(43), 1);
        for (int i = 1; i <= 45; i++) {
            due("feed", x.feed(i, i, i, i, i), 20L * i);
        }
        due("box(7)", x.box(7), -1);
        due("feed past 900", x.feed(0, 0, 0, 0, 0), -1);
        due("none came", x.size(9), 900);
        due("a refused feed tells no number", x.trouble(), 1);
        due("feed past 900 again", x.feed(0, 0, 0, 0, 0), -1);

        start(3, "hall boxes 2 letters 3;porter a draws 1 lot;porter b draws 2 left");
        due("size(9)", x.size(9), 0);
        due("day", x.day(1, 9), true);
        due("put", x.put(2), 2);
        due("mark", x.mark(), 0);
        int seed = x.size(7);
        Tape.feed(x, "hall boxes 3 letters 1;porter c draws 1 lot");
        refused("hall(61)", x.hall(61), 2);
        refused("hall(-1)", x.hall(-1), 2);
        refused("hall(most)", x.hall(BIG), 2);
        due("the tape stays", x.size(9), 60);
        refused("hall(42)", x.hall(42), 4);
        due("the tape is empty", x.size(9), 0);
        due("the hall stays", x.size(0), 2);
        due("the day stays", x.size(4), 1);
        due("its letters", x.size(5), 2);
        due("its seed", x.size(7), seed);
        due("the marks stay", x.size(8), 1);
        refused("an empty hall", x.hall(0), 4);
        due("its fault", x.fault(), 1);
        due("its place", x.where(), 0);
        Tape.feed(x, "hall boxes 3 letters 1;porter c draws 1 lot.!?");
        due("the first bytes alone", x.hall(43), 1);
        due("trouble", x.trouble(), 0);
        due("boxes", x.size(0), 3);
        due("porters", x.size(2), 1);
        due("first porter", x.size(4), 0);
        due("no letters yet", x.size(5), 0);
        due("seed 0", x.size(7), 0);
        due("no marks", x.size(8), 0);
        refused("back", x.back(0), 1);

        start(4, "");
        Tape.hall(x, "hall boxes 9");
        due("fault", x.fault(), 4);
        due("where", x.where(), 11);
        refused("hall(1)", x.hall(1), 2);
        due("fault stays", x.fault(), 4);
        promise = 5;
        due("where not", x.where(), -1);
        Tape.hall(x, "hall boxes 1 lettuce");
        due("fault", x.fault(), 1);
        due("where", x.where(), 13);
        due("where again", x.where(), 13);
        due("size is no such call", x.size(0), 0);
        due("where still", x.where(), 13);
        x.recall();
        due("where no more", x.where(), -1);
        promise = 4;
        due("fault still", x.fault(), 1);
        due("hall", Tape.hall(x, "hall boxes 1 letters 1;porter a draws 1 lot"), 1);
        due("no fault", x.fault(), 0);
        due("no place", x.where(), -1);
    }

    private static void noHall() {
        refused("fullest", x.fullest(0, 0, 0, true), 1);
        refused("empty", x.empty(0, 0, 0, true), 1);
        refused("holds", x.holds(0, 0, 0, 0, true), 1);
        refused("mean", x.mean(0, 0, 0, true), 1);
        refused("states", x.states(0, 0), 1);
        refused("worst", x.worst(0, 0, true), 1);
        refused("lies", x.lies(0, 0, true), 1);
        refused("compare", x.compare(0, 0, 0, 0), 1);
        refused("never", x.never(0, 1), 1);
        refused("never, number too", x.never(-1, 0), 1);
        refused("best", x.best(1, 0, 0), 1);
        refused("best, number too", x.best(0, 0, 0), 1);
        refused("bestChance", x.bestChance(1, 0, 0, true), 1);
        refused("likely", x.likely(), 1);
        refused("cannot", x.cannot(0), 1);
        refused("day", x.day(0, 0), 1);
        refused("put", x.put(1), 1);
        refused("put, number too", x.put(0), 1);
        refused("goes", x.goes(0, true), 1);
        refused("place", x.place(0), 1);
        refused("box", x.box(0), 1);
        refused("recall", x.recall(), 1);
        refused("mark", x.mark(), 1);
        refused("back", x.back(0), 1);
        refused("porter", x.porter(0, 0), 1);
        refused("boxOf", x.boxOf(0, true), 1);
        led(0, -7);
    }

    private static void chanceCalls() {
        start(6, "hall boxes 3 letters 8;box 0 room 8 weight 2;porter a draws 1 left;porter b draws 3 lot");
        // four parts, two of them the first box's: of two letters both in one box 4 + 1 + 1 of 16
        chance("fullest", x.fullest(0, 2, 2, false), x.fullest(0, 2, 2, true), 3, 8);
        chance("fullest of 0", x.fullest(0, 2, 0, false), x.fullest(0, 2, 0, true), 1, 1);
        chance("fullest of 9", x.fullest(0, 8, 9, false), x.fullest(0, 8, 9, true), 0, 1);
        chance("fullest of none", x.fullest(0, 0, 1, false), x.fullest(0, 0, 1, true), 0, 1);
        refused("porter", x.fullest(2, 9, 0, true), 1);
        refused("porter", x.fullest(-1, 0, 0, true), 1);
        refused("k", x.fullest(0, 9, 0, true), 2);
        refused("k", x.fullest(0, -1, 0, true), 2);
        refused("m", x.fullest(0, 0, 10, true), 2);
        refused("m", x.fullest(0, 0, -1, true), 2);
        // four to the third times six for each letter: 384 to the fifth is below the bound, to the sixth above it
        due("ways", x.fullest(1, 5, 0, true), 1);
        refused("ways", x.fullest(1, 6, 0, true), 3);
        refused("number ahead of ways", x.fullest(1, 6, 10, true), 2);

        promise = 7;
        chance("empty", x.empty(0, 2, 2, false), x.empty(0, 2, 2, true), 3, 8);
        chance("empty", x.empty(0, 0, 3, false), x.empty(0, 0, 3, true), 1, 1);
        chance("empty 5", x.empty(0, 8, 5, false), x.empty(0, 8, 5, true), 0, 1);
        refused("porter", x.empty(2, 0, 6, true), 1);
        refused("k", x.empty(0, 9, 0, true), 2);
        refused("e", x.empty(0, 0, 6, true), 2);
        refused("e", x.empty(0, 0, -1, true), 2);
        refused("ways", x.empty(1, 8, 0, true), 3);

        promise = 8;
        chance("holds", x.holds(0, 2, 0, 1, false), x.holds(0, 2, 0, 1, true), 1, 2);
        chance("holds", x.holds(0, 2, 1, 1, false), x.holds(0, 2, 1, 1, true), 3, 8);
        chance("holds 8", x.holds(0, 8, 0, 8, false), x.holds(0, 8, 0, 8, true), 1, 256);
        refused("porter", x.holds(2, 0, 0, 0, true), 1);
        refused("box", x.holds(0, 9, 3, 0, true), 1);
        refused("box", x.holds(0, 0, -1, 0, true), 1);
        refused("k", x.holds(0, 9, 0, 0, true), 2);
        refused("c", x.holds(0, 0, 0, 9, true), 2);
        refused("c", x.holds(0, 0, 0, -1, true), 2);
        refused("ways", x.holds(1, 8, 0, 0, true), 3);

        promise = 10;
        due("states", x.states(0, 0), 1);
        due("states", x.states(0, 2), 6);
        due("states", x.states(0, 8), 45);
        refused("porter", x.states(2, 9), 1);
        refused("k", x.states(0, 9), 2);
        refused("ways", x.states(1, 8), 3);

        promise = 11;
        due("worst", x.worst(0, 4, false), 4);
        due("worst least", x.worst(0, 4, true), 2);
        due("worst of none", x.worst(0, 0, false), 0);
        refused("porter", x.worst(-1, 9, true), 1);
        refused("k", x.worst(0, -1, true), 2);
        refused("ways", x.worst(1, 8, true), 3);

        // ten to the third for each letter: five of them are just what is counted
        start(6, "hall boxes 4 letters 8;box 0 room 8 weight 3;box 1 room 8 weight 3;box 2 room 8 weight 3;porter a draws 3 left;door 0 every 4");
        due("ways as many as are counted", x.fullest(0, 6, 1, true), 1);
        refused("ways above them", x.fullest(0, 7, 1, true), 3);

        start(12, "hall boxes 2 letters 2;porter a draws 1 left;porter b draws 3 left;lay 1,1;lay 2,0;lay 3,0;lay 0,1;lay 0,2");
        chance("lies", x.lies(0, 0, false), x.lies(0, 0, true), 1, 2);
        chance("lies", x.lies(0, 1, false), x.lies(0, 1, true), 1, 4);
        chance("lies, too many", x.lies(0, 2, false), x.lies(0, 2, true), 0, 1);
        chance("lies, too few", x.lies(0, 3, false), x.lies(0, 3, true), 0, 1);
        // three glances: the first goes right by 1 of 8, the second too if it sees nothing else
        chance("lies", x.lies(1, 4, false), x.lies(1, 4, true), 1, 64);
        refused("lay", x.lies(0, 5, true), 1);
        refused("lay", x.lies(0, -1, true), 1);
        refused("porter", x.lies(2, 0, true), 1);
        start(12, "hall boxes 5 letters 8;porter a draws 3 lot;lay 8,0,0,0,0");
        refused("ways", x.lies(0, 0, true), 3);
        refused("lay ahead of ways", x.lies(0, 1, true), 1);
    }

    private static void meanCalls() {
        start(9, "hall boxes 2 letters 4;box 0 room 2 weight 1;box 1 room 1 weight 3;porter a draws 1 lot;porter b draws 3 lot");
        chance("mean 0", x.mean(0, 2, 0, false), x.mean(0, 2, 0, true), 17, 16);
        chance("mean 1", x.mean(0, 1, 1, false), x.mean(0, 1, 1, true), 1, 1);
        chance("mean 1", x.mean(0, 2, 1, false), x.mean(0, 2, 1, true), 1, 16);
        chance("mean 2", x.mean(0, 3, 2, false), x.mean(0, 3, 2, true), 0, 1);
        chance("mean 2", x.mean(0, 4, 2, false), x.mean(0, 4, 2, true), 1, 1);
        chance("mean 3", x.mean(0, 2, 3, false), x.mean(0, 2, 3, true), 17, 8);
        chance("mean 3", x.mean(0, 4, 3, false), x.mean(0, 4, 3, true), 5, 1);
        refused("what", x.mean(0, 9, 4, true), 1);
        refused("what", x.mean(0, 0, -1, true), 1);
        refused("porter", x.mean(2, 0, 0, true), 1);
        refused("k", x.mean(0, 5, 0, true), 2);
        start(9, "hall boxes 5 letters 8;porter b draws 3 left;porter c draws 3 lot");
        due("ways", x.mean(0, 7, 2, false), 0);
        refused("ways", x.mean(0, 8, 2, false), 3);
        refused("ways", x.mean(1, 6, 2, false), 3);
        // the least number that 1, 2, 3 go into is six: 750 to the fifth
        due("ways", x.mean(1, 5, 2, false), 0);
    }

    /** The fullest box of two letters in two like boxes, and single letters, by each rule. */
    private static void rules() {
        start(6, "hall boxes 2 letters 2;box 0 room 8 weight 2;" + RULES);
        chance("lot", x.holds(0, 1, 0, 1, false), x.holds(0, 1, 0, 1, true), 2, 3);
        chance("left", x.holds(1, 1, 0, 1, false), x.holds(1, 1, 0, 1, true), 8, 9);
        chance("lazy", x.holds(2, 1, 0, 1, false), x.holds(2, 1, 0, 1, true), 2, 3);
        chance("beside", x.holds(3, 1, 0, 1, false), x.holds(3, 1, 0, 1, true), 1, 1);
        chance("recalls", x.holds(4, 1, 0, 1, false), x.holds(4, 1, 0, 1, true), 8, 9);
        start(6, "hall boxes 3 letters 3;porter a draws 2 lazy 0;porter b draws 1 beside");
        // the second letter meets the first one's box by a ninth: both glances
        chance("lazy", x.fullest(0, 2, 2, false), x.fullest(0, 2, 2, true), 1, 9);
        // beside: first 0 (seen 0 or 2) or 1 (seen 1), round
        chance("beside", x.holds(1, 1, 0, 1, false), x.holds(1, 1, 0, 1, true), 2, 3);
        chance("beside", x.holds(1, 1, 1, 1, false), x.holds(1, 1, 1, 1, true), 1, 3);

        // the door, full boxes, round, returned ones
        start(6, "hall boxes 3 letters 5;box 0 room 1 weight 1;box 1 room 2 weight 1;box 2 room 1 weight 1;door 1 every 1;porter a draws 1 lot");
        due("door", x.holds(0, 2, 1, 2, false), 1);
        due("next", x.holds(0, 3, 2, 1, false), 1);
        due("round", x.holds(0, 4, 0, 1, false), 1);
        due("returned", x.mean(0, 5, 2, false), 1);
        due("one way", x.states(0, 5), 1);
        due("door's letters are no ways", x.fullest(0, 5, 2, true), 1);

        // moves: the first of the fullest to the first of the emptiest
        start(6, "hall boxes 2 letters 4;door 0 every 1;moves every 2;porter a draws 1 lot");
        due("moved", x.holds(0, 2, 1, 1, false), 1);
        due("not moved", x.holds(0, 3, 0, 2, false), 1);
        due("moved", x.holds(0, 4, 0, 2, false), 1);
        start(6, "hall boxes 2 letters 4;box 1 room 1 weight 1;door 0 every 1;moves every 1;porter a draws 1 lot");
        due("moved", x.holds(0, 2, 1, 1, false), 1);
        due("full, not moved", x.holds(0, 4, 0, 3, false), 1);
        start(6, "hall boxes 3 letters 2;door 2 every 1;moves every 2;porter a draws 1 lot");
        due("first of the emptiest", x.holds(0, 2, 0, 1, false), 1);
        due("first of the emptiest", x.holds(0, 2, 1, 0, false), 1);
    }

    private static void porterCalls() {
        start(13, "hall boxes 5 letters 8;porter a draws 1 left;porter b draws 2 left;porter c draws 2 left;porter d draws 3 lot");
        due("compare", x.compare(0, 1, 8, 3), 2);
        due("compare", x.compare(1, 0, 8, 3), -2);
        due("compare", x.compare(1, 2, 8, 3), 0);
        due("compare", x.compare(0, 0, 8, 3), 0);
        due("compare", x.compare(0, 1, 8, 0), 0);
        due("compare", x.compare(0, 1, 8, 9), 0);
        refused("porter", x.compare(4, 0, 9, 0), 1);
        refused("other", x.compare(0, -1, 0, 0), 1);
        refused("k", x.compare(0, 1, 9, 0), 2);
        refused("m", x.compare(0, 1, 0, 10), 2);
        refused("m", x.compare(0, 1, 0, -1), 2);
        refused("ways of the other", x.compare(0, 3, 6, 1), 3);
        refused("ways of the first", x.compare(3, 0, 6, 1), 3);
        due("ways", x.compare(3, 0, 5, 9), 0);

        promise = 14;
        due("never", x.never(8, 9), 1);
        due("never", x.never(8, 8), -2);
        due("never", x.never(8, 1), -2);
        due("never", x.never(0, 1), 1);
        refused("k", x.never(9, 1), 2);
        refused("m", x.never(0, 0), 2);
        refused("m", x.never(0, 10), 2);
        start(14, "hall boxes 1 letters 8;box 0 room 3 weight 1;porter a draws 1 left");
        due("never, by room", x.never(8, 4), 1);
        due("never, by room", x.never(8, 3), -2);
        due("never, more than so many", x.never(8, 2), -2);

        start(15, "hall boxes 5 letters 8;porter a draws 1 left");
        due("best by one glance", x.best(1, 8, 3), 0);
        refused("glances", x.best(0, 0, 0), 2);
        refused("glances", x.best(4, 0, 0), 2);
        refused("k", x.best(1, 9, 0), 2);
        refused("m", x.best(1, 0, 10), 2);
        refused("m", x.best(1, 0, -1), 2);
        refused("ways", x.best(3, 8, 0), 3);
        due("ways", x.best(3, 7, 0), 0);
        promise = 16;
        chance("bestChance", x.bestChance(1, 2, 2, false), x.bestChance(1, 2, 2, true), 1, 5);
        chance("bestChance", x.bestChance(2, 2, 2, false), x.bestChance(2, 2, 2, true), 1, 25);
        refused("glances", x.bestChance(4, 0, 0, true), 2);
        refused("k", x.bestChance(1, -1, 0, true), 2);
        refused("m", x.bestChance(1, 0, 10, true), 2);
        refused("ways", x.bestChance(3, 8, 0, true), 3);
        // two boxes, four letters: one letter a box is cared for first, then two
        start(15, "hall boxes 2 letters 4;porter a draws 1 left");
        due("best", x.best(2, 4, 3), 1);
        due("bestChance", x.bestChance(2, 4, 3, true) > 0, true);

        start(17, "hall boxes 2 letters 2;porter a draws 1 left;porter b draws 3 left;porter c draws 3 left;lay 1,1");
        due("likely", x.likely(), 1);
        start(17, "hall boxes 2 letters 2;porter a draws 3 left;porter b draws 1 left;lay 2,0;lay 0,2");
        due("likely", x.likely(), 1);
        start(17, "hall boxes 2 letters 2;porter a draws 3 left;porter b draws 1 left;lay 2,0;lay 2,1");
        due("likely, none", x.likely(), -2);
        due("trouble", x.trouble(), 0);
        promise = 18;
        due("cannot", x.cannot(0), 2);
        due("cannot", x.cannot(1), 2);
        refused("porter", x.cannot(2), 1);
        refused("porter", x.cannot(-1), 1);
        start(17, "hall boxes 2 letters 2;porter a draws 3 left");
        refused("no lays", x.likely(), 6);
        promise = 18;
        due("no lays", x.cannot(0), 0);
        start(17, "hall boxes 5 letters 8;porter a draws 1 left;porter b draws 3 left;lay 8,0,0,0,0;lay 0,0,0,0,0;lay 1,1,1,1,4");
        refused("ways of any", x.likely(), 3);
        promise = 18;
        due("cannot", x.cannot(0), 2);
        refused("ways", x.cannot(1), 3);
        // eight lays by chances of 25 to the eighth: no word of the machine holds their products
        start(17, "hall boxes 5 letters 8;porter a draws 2 left;porter b draws 2 recalls;porter c draws 2 lot;porter d draws 2 lazy 1"
            + ";lay 2,2,2,1,1;lay 2,2,1,2,1;lay 3,2,1,1,1;lay 2,2,2,2,0;lay 1,2,2,2,1;lay 2,1,2,2,1;lay 3,2,2,1,0;lay 1,1,2,2,2");
        int most = x.likely();
        due("likely of long products", most >= 0 && most < 4, true);
    }

    private static void dayCalls() {
        start(19, "hall boxes 2 letters 3;" + RULES);
        due("put", x.put(2), 2);
        due("day", x.day(1, 65536), true);
        due("porter", x.size(4), 1);
        due("seed", x.size(7), 65536);
        due("letters", x.size(5), 0);
        due("empty", x.box(0) + x.box(1), 0);
        refused("porter", x.day(5, -1), 1);
        refused("porter", x.day(-1, 0), 1);
        refused("seed", x.day(0, 65537), 2);
        refused("seed", x.day(0, -1), 2);
        due("the day stays", x.size(4), 1);

        // 74, 5624, 28652, 51758, ..: box by box, and a lot only if two glances show the emptiest
        start(20, "hall boxes 2 letters 3;" + RULES);
        due("put", x.put(1), 1);
        due("draws of a lot", x.size(7), 28652);
        due("day", x.day(1, 0), true);
        due("put", x.put(1), 1);
        due("draws of a left one", x.size(7), 5624);
        due("day", x.day(2, 0), true);
        due("put", x.put(1), 1);
        due("a lazy one has all its glances", x.size(7), 5624);
        due("put all", x.put(8), 2);
        due("letters", x.size(5), 3);
        refused("all were", x.put(1), 6);
        refused("n ahead", x.put(9), 2);
        refused("n", x.put(0), 2);
        start(20, "hall boxes 2 letters 3;box 0 room 8 weight 3;porter a draws 1 left;door 1 every 1");
        due("put", x.put(3), 3);
        due("the door draws nothing", x.size(7), 0);
        due("the door's box", x.box(1), 3);
        start(20, "hall boxes 2 letters 3;box 0 room 8 weight 3;porter a draws 1 left");
        due("put", x.put(1), 1);
        // 74 by four leaves 2: still the first box's
        due("weights", x.box(0), 1);
        due("day", x.day(0, 1), true);
        due("put", x.put(1), 1);
        // 149 by four leaves 1
        due("weights", x.box(0), 1);
        due("day", x.day(0, 3), true);
        due("put", x.put(1), 1);
        // 299 by four leaves 3
        due("weights", x.box(1), 1);
        start(20, "hall boxes 1 letters 0;porter a draws 1 left");
        refused("no letters", x.put(1), 6);

        start(21, "hall boxes 3 letters 3;box 1 room 1 weight 1;porter a draws 1 left;moves every 3");
        chance("goes", x.goes(0, false), x.goes(0, true), 1, 3);
        due("place", x.place(1), 1);
        chance("goes, full", x.goes(1, false), x.goes(1, true), 0, 1);
        chance("goes, the next", x.goes(2, false), x.goes(2, true), 2, 3);
        refused("box", x.goes(3, true), 1);
        refused("box", x.goes(-1, true), 1);
        promise = 22;
        refused("full", x.place(1), 5);
        refused("box", x.place(3), 1);
        refused("box", x.place(-1), 1);
        due("place", x.place(2), 1);
        chance("goes ahead of what moves", x.goes(2, false), x.goes(2, true), 2, 3);
        due("place, behind what moves", x.place(2), 1);
        due("it went", x.box(0), 1);
        due("the seed stays", x.size(7), 0);
        refused("none left", x.place(0), 6);
        refused("none left", x.goes(0, false), 6);
        refused("box ahead", x.goes(3, false), 1);

        start(22, "hall boxes 3 letters 4;porter a draws 2 recalls;door 2 every 4");
        // first to 0: seen (0), (0, 1) or (0, 2), so that 0, 1 or 2 would be remembered
        refused("not the same", x.place(0), 5);
        due("trouble of a place that can't be", x.size(5), 0);
        // to 2: nothing else was seen
        due("place", x.place(2), 1);
        promise = 24;
        due("recall", x.recall(), 2);
        promise = 22;
        chance("goes", x.goes(1, false), x.goes(1, true), 1, 3);
        refused("not the same", x.place(0), 5);
        // back to 2 only if it alone is seen
        due("place", x.place(2), 2);
        due("recall", x.recall(), 2);
        due("put", x.put(1), 1);
        int remembered = x.recall();
        chance("goes by the door", x.goes(2, false), x.goes(2, true), 1, 1);
        due("place by the door", x.place(2) >= 3, true);
        due("recall as it was", x.recall(), remembered);
        start(22, "hall boxes 2 letters 3;box 0 room 1 weight 1;box 1 room 1 weight 1;porter a draws 1 lot");
        due("put", x.put(2), 2);
        chance("goes nowhere", x.goes(0, false), x.goes(0, true), 0, 1);
        refused("returned", x.place(0), 5);
        due("put", x.put(1), 1);
        due("returned", x.size(6), 1);
        due("letters", x.size(5), 3);

        start(23, "hall boxes 2 letters 3;porter a draws 1 lot");
        due("place", x.place(1), 1);
        due("box", x.box(0), 0);
        due("box", x.box(1), 1);
        refused("box", x.box(2), 1);
        refused("box", x.box(-1), 1);
        promise = 24;
        due("recall nothing", x.recall(), -2);
        due("trouble", x.trouble(), 0);
    }

    private static void markCalls() {
        start(25, "hall boxes 2 letters 5;porter a draws 1 lot;porter b draws 2 recalls");
        due("day", x.day(1, 5), true);
        due("mark", x.mark(), 0);
        due("put", x.put(2), 2);
        int seed = x.size(7);
        int first = x.box(0);
        int remembered = x.recall();
        due("mark", x.mark(), 1);
        due("day", x.day(0, 9), true);
        due("marks stay", x.size(8), 2);
        due("put", x.put(4), 4);
        promise = 26;
        due("back", x.back(1), true);
        due("trouble", x.trouble(), 0);
        due("porter", x.size(4), 1);
        due("letters", x.size(5), 2);
        due("seed", x.size(7), seed);
        due("box", x.box(0), first);
        due("box", x.box(1), 2 - first);
        due("recall", x.recall(), remembered);
        due("back", x.back(0), true);
        due("letters", x.size(5), 0);
        due("seed", x.size(7), 5);
        due("recall", x.recall(), -2);
        due("all marks stay", x.size(8), 2);
        due("back again", x.back(1), true);
        due("put", x.put(1), 1);
        due("back to the same", x.back(1), true);
        due("letters", x.size(5), 2);
        refused("back", x.back(2), 1);
        refused("back", x.back(-1), 1);
        promise = 25;
        due("mark", x.mark(), 2);
        refused("mark", x.mark(), 3);
        due("marks", x.size(8), 3);
    }

    private static void seenCalls() {
        start(27, "hall boxes 2 letters 5;box 1 room 3 weight 2;" + RULES + ";porter n draws 3 lazy 8");
        int[][] want = {{2, 0, -2}, {2, 1, -2}, {2, 2, 0}, {2, 3, -2}, {2, 4, -2}, {3, 2, 8}};
        for (int p = 0; p < 6; p++) {
            for (int what = 0; what < 3; what++) {
                due("porter " + p + " " + what, x.porter(p, what), want[p][what]);
                due("trouble", x.trouble(), 0);
            }
        }
        refused("porter", x.porter(6, 0), 1);
        refused("porter", x.porter(-1, 0), 1);
        refused("what", x.porter(0, 3), 1);
        refused("what", x.porter(0, -1), 1);
        promise = 28;
        due("room", x.boxOf(0, false), 8);
        due("weight", x.boxOf(0, true), 1);
        due("room", x.boxOf(1, false), 3);
        due("weight", x.boxOf(1, true), 2);
        refused("box", x.boxOf(2, false), 1);
        refused("box", x.boxOf(-1, true), 1);

        start(29, "hall boxes 4 letters 5;porter a draws 1 left");
        led(0, 0);
        led(3, 3);
        led(4, -7);
        led(-1, -7);
        due("place", x.place(1), 1);
        led(0, 0);
        led(1, 2);
        led(2, 3);
        led(3, -7);
        led(SMALL, -7);
        led(BIG, -7);

        start(30, "hall boxes 4 letters 5;porter a draws 1 left;porter b draws 1 left;lay 1,1,1,1");
        int[] sizes = {4, 5, 2, 1, 1, 2, 0, 5624, 1, 20};
        due("day", x.day(1, 0), true);
        due("put", x.put(2), 2);
        due("mark", x.mark(), 0);
        due("feed", x.feed(0, 0, 0, 0, 0), 20);
        for (int what = 0; what < 10; what++) {
            due("size(" + what + ")", x.size(what), sizes[what]);
        }
        due("size", x.size(10), -1);
        due("size", x.size(-1), -1);
        due("size", x.size(BIG), -1);

        start(31, "hall boxes 2 letters 1;porter a draws 1 left");
        due("trouble", x.trouble(), 0);
        refused("box", x.box(2), 1);
        due("feed", x.feed(0, 0, 0, 0, 0), 20);
        due("size", x.size(10), -1);
        led(9, -7);
        due("fault", x.fault(), 0);
        due("where", x.where(), -1);
        due("trouble stays", x.trouble(), 1);
        due("box", x.box(1), 0);
        due("trouble", x.trouble(), 0);
        refused("put", x.put(9), 2);
        due("put", x.put(8), 1);
        due("trouble", x.trouble(), 0);
        refused("put", x.put(8), 6);
    }
}
