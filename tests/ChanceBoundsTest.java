/** The sentences on boxes, letters, rules and chances (Terms, II; promises 6 to 18) that name a boundary case, each by itself. */
public final class ChanceBoundsTest {
    private static final Bounds T = new Bounds("ChanceBoundsTest");
    private static final String A = ";porter a draws 1 left";
    private static final String PAIR = "hall boxes 2 letters 2";

    public static void main(String[] args) {
        boxes();
        glances();
        lot();
        left();
        lazy();
        beside();
        recalls();
        recallsBehindALetter();
        door();
        fullBoxes();
        moves();
        movesRefused();
        chances();
        ways();
        waysOfLots();
        waysOfLetters();
        fullest();
        empty();
        holds();
        mean();
        states();
        worst();
        lies();
        compare();
        never();
        best();
        bestChance();
        sideBySide();
        likely();
        cannot();
        T.end();
    }

    private static void boxes() {
        T.of("boxes have numbers from 0 on", "hall boxes 5 letters 1" + A);
        T.noChance("box -1", w -> T.x.holds(0, 0, -1, 0, w), 1);
        T.chance("box 0", w -> T.x.holds(0, 0, 0, 0, w), 1, 1);
        T.chance("box 4", w -> T.x.holds(0, 0, 4, 0, w), 1, 1);
        T.noChance("box 5", w -> T.x.holds(0, 0, 5, 0, w), 1);
        T.of("room 8 but as told", "hall boxes 2 letters 8;box 1 room 3 weight 1" + A + ";door 0 every 1");
        T.chance("eight in a box", w -> T.x.holds(0, 8, 0, 8, w), 1, 1);
        T.hall("hall boxes 2 letters 8;box 1 room 3 weight 1" + A + ";door 1 every 1");
        T.chance("three in a box told so", w -> T.x.holds(0, 8, 1, 3, w), 1, 1);
        T.of("weight 1 but as told", "hall boxes 2 letters 1;box 1 room 8 weight 3" + A);
        T.chance("weights 1 and 3", w -> T.x.holds(0, 1, 1, 1, w), 3, 4);
        T.of("all are empty at first", "hall boxes 3 letters 8" + A + ";door 0 every 1;moves every 1");
        T.chance("empty", w -> T.x.empty(0, 0, 3, w), 1, 1);
        T.chance("fullest", w -> T.x.fullest(0, 0, 1, w), 0, 1);
        T.boxes(0, 0, 0);
    }

    private static void glances() {
        T.of("a glance is whatever was drawn ahead of it", "hall boxes 2 letters 1;porter a draws 2 left;porter b draws 3 left");
        T.chance("both show the second box", w -> T.x.holds(0, 1, 1, 1, w), 1, 4);
        T.chance("all three show the second box", w -> T.x.holds(1, 1, 1, 1, w), 1, 8);
        T.of("a glance of one box shows it", "hall boxes 1 letters 2;porter a draws 3 lot;porter b draws 3 left;porter c draws 3 lazy 0;porter d draws 3 beside;porter e draws 3 recalls");
        for (int p = 0; p < 5; p++) {
            int of = p;
            T.chance("rule " + p, w -> T.x.holds(of, 2, 0, 2, w), 1, 1);
            T.due("day", T.x.day(p, 1), true);
            T.due("put", T.x.put(2), 2);
            T.boxes(2);
        }
        T.of("a glance that shows a full box is a glance", "hall boxes 2 letters 2;box 0 room 1 weight 3" + A);
        T.place(0);
        T.chance("the next one has it", w -> T.x.goes(1, w), 1, 1);
    }

    private static void lot() {
        T.of("lot: each glance of the emptiest is as likely, not each box", "hall boxes 2 letters 2;box 0 room 8 weight 2;porter a draws 3 lot;porter b draws 2 lot");
        T.chance("by three", w -> T.x.holds(0, 1, 0, 1, w), 2, 3);
        T.chance("by two", w -> T.x.holds(1, 1, 0, 1, w), 2, 3);
        T.of("lot: one glance alone shows the emptiest", "hall boxes 2 letters 2;porter a draws 2 lot");
        T.place(0);
        T.chance("both show the fuller one", w -> T.x.goes(0, w), 1, 4);
    }

    private static void left() {
        T.of("left: of the emptiest seen the least number", "hall boxes 3 letters 8;porter a draws 3 left");
        T.chance("first", w -> T.x.holds(0, 1, 0, 1, w), 19, 27);
        T.chance("second", w -> T.x.holds(0, 1, 1, 1, w), 7, 27);
        T.chance("third", w -> T.x.holds(0, 1, 2, 1, w), 1, 27);
        T.of("left: the emptiest ahead of the least number", "hall boxes 3 letters 8;porter a draws 2 left");
        T.place(0, 1);
        T.chance("the third, if it is seen", w -> T.x.goes(2, w), 5, 9);
        T.chance("the second, if it alone is seen", w -> T.x.goes(1, w), 1, 9);
        T.chance("the first of like ones", w -> T.x.goes(0, w), 1, 3);
    }

    private static void lazy() {
        T.of("lazy: no more letters than told", "hall boxes 2 letters 8;porter a draws 2 lazy 1");
        T.place(0);
        T.chance("as many as told", w -> T.x.goes(0, w), 1, 2);
        T.place(0);
        T.chance("one more than told: both glances show it", w -> T.x.goes(0, w), 1, 4);
        T.chance("the other", w -> T.x.goes(1, w), 3, 4);
        T.of("lazy: or the last, if there is none", "hall boxes 2 letters 8;box 0 room 8 weight 3;porter a draws 2 lazy 0");
        T.place(0, 1);
        T.chance("the last", w -> T.x.goes(0, w), 3, 4);
        T.of("lazy 0: an empty one", "hall boxes 2 letters 8;porter a draws 3 lazy 0");
        T.chance("both empty: the first glance", w -> T.x.goes(1, w), 1, 2);
        T.place(1);
        T.chance("all show the fuller one", w -> T.x.goes(1, w), 1, 8);
        T.of("lazy 8: any box", "hall boxes 2 letters 8;porter a draws 3 lazy 8");
        T.place(1, 1, 1, 1, 1, 1, 1);
        T.chance("the first glance", w -> T.x.goes(1, w), 1, 2);
        T.of("lazy: the first glance, not the emptiest", "hall boxes 3 letters 8;porter a draws 2 lazy 1");
        T.place(0, 0, 1);
        // the second: seen first, or behind the first box, which is fuller than told
        T.chance("the second", w -> T.x.goes(1, w), 4, 9);
        T.chance("the third", w -> T.x.goes(2, w), 4, 9);
        T.chance("the first", w -> T.x.goes(0, w), 1, 9);
    }

    private static void beside() {
        T.of("beside: one number higher, round", "hall boxes 5 letters 8;porter a draws 1 beside");
        T.place(1, 2, 3);
        // the first box is seen by itself, and beside the last one
        T.boxes(0, 1, 1, 1, 0);
        T.chance("first", w -> T.x.goes(0, w), 2, 5);
        T.chance("last", w -> T.x.goes(4, w), 1, 5);
        T.chance("second", w -> T.x.goes(1, w), 1, 5);
        T.chance("third", w -> T.x.goes(2, w), 1, 5);
        T.chance("fourth", w -> T.x.goes(3, w), 0, 1);
        T.of("beside: the neighbour of one box alone is itself", "hall boxes 1 letters 2;porter a draws 2 beside");
        T.chance("it", w -> T.x.goes(0, w), 1, 1);
        T.of("beside: of like ones the least number", "hall boxes 2 letters 2;porter a draws 1 beside");
        T.chance("the first", w -> T.x.goes(0, w), 1, 1);
        T.place(0);
        T.chance("the emptier", w -> T.x.goes(1, w), 1, 1);
        T.of("beside: a number higher, not one lower", "hall boxes 3 letters 2;porter a draws 1 beside");
        T.place(0);
        T.chance("beside the first", w -> T.x.goes(1, w), 2, 3);
        T.chance("beside the second", w -> T.x.goes(2, w), 1, 3);
    }

    private static void recalls() {
        T.of("recalls: nothing at first", "hall boxes 3 letters 8;porter a draws 1 recalls");
        T.due("recall", T.x.recall(), -2);
        T.chance("the one seen", w -> T.x.goes(2, w), 1, 3);
        T.of("recalls: of the seen one and the remembered one the emptiest", "hall boxes 3 letters 8;porter a draws 1 recalls");
        T.place(2);
        T.due("recall", T.x.recall(), 2);
        T.chance("the same again", w -> T.x.goes(2, w), 1, 3);
        T.place(2, 0);
        T.due("the emptiest then", T.x.recall(), 0);
        T.chance("remembered, unless the emptier one is seen", w -> T.x.goes(0, w), 2, 3);
        T.chance("seen and emptier", w -> T.x.goes(1, w), 1, 3);
        T.chance("fuller than the remembered one", w -> T.x.goes(2, w), 0, 1);
        T.of("recalls: of like ones the least number", "hall boxes 3 letters 8;porter a draws 1 recalls");
        T.place(1);
        T.due("recall", T.x.recall(), 1);
        T.place(2);
        T.due("of like ones the least number", T.x.recall(), 1);
        T.chance("the remembered one has a less number than the third", w -> T.x.goes(1, w), 2, 3);
        T.chance("third", w -> T.x.goes(2, w), 0, 1);
    }

    private static void recallsBehindALetter() {
        T.of("recalls: with the letter in", "hall boxes 2 letters 8;porter a draws 2 recalls");
        // 899 is odd, 1962 even: both are seen, and the first has it
        T.due("day", T.x.day(0, 11), true);
        T.due("put", T.x.put(1), 1);
        T.boxes(1, 0);
        T.due("the box that was seen and had none", T.x.recall(), 1);
        T.of("recalls: ahead of what moves", "hall boxes 3 letters 3;porter a draws 1 recalls;door 2 every 2;moves every 3");
        T.place(1, 2);
        T.due("recall", T.x.recall(), 1);
        T.boxes(0, 1, 1);
        // 74 by three leaves 2: of the third box and the remembered second one the second has it, and the third is emptier then
        T.due("put", T.x.put(1), 1);
        T.boxes(1, 1, 1);
        T.due("ahead of what moves", T.x.recall(), 2);
        T.of("recalls: of these boxes, even if the next one has the letter", "hall boxes 3 letters 3;box 0 room 1 weight 1;porter a draws 1 recalls;door 0 every 1");
        T.due("the door", T.x.put(3), 3);
        T.boxes(1, 2, 0);
        T.due("remembered", T.x.recall(), -2);
        T.of("recalls: of these boxes alone", "hall boxes 2 letters 3;box 0 room 2 weight 1;porter a draws 1 recalls");
        T.place(0, 0);
        T.due("recall", T.x.recall(), 0);
        // either the first is seen alone, it is full, and the second has the letter; or the second is seen too
        T.chance("both ways", w -> T.x.goes(1, w), 1, 1);
        T.refused("remembers one or the other", T.x.place(1), 5);
        // 74 is even: the first
        T.due("put", T.x.put(1), 1);
        T.boxes(2, 1);
        T.due("the first alone was seen", T.x.recall(), 0);
    }

    private static void door() {
        T.of("the door: each letter whose number its every goes into", "hall boxes 3 letters 8" + A + ";door 2 every 3");
        for (int letter = 1; letter <= 8; letter++) {
            boolean doors = letter % 3 == 0;
            int at = letter;
            T.chance("letter " + letter, w -> T.x.goes(2, w), 1, doors ? 1 : 3);
            T.due("place", T.x.place(doors ? 2 : 0) > 0, true);
            T.due("letters", T.x.size(5), at);
        }
        T.of("the door: every 1", "hall boxes 2 letters 8" + A + ";door 1 every 1");
        T.chance("all of them", w -> T.x.holds(0, 8, 1, 8, w), 1, 1);
        T.of("the door: each letter whose number its every goes into, by draws", "hall boxes 3 letters 7" + A + ";door 2 every 3");
        // seed 65,536 shows the second box for ever
        T.fine("day", T.x.day(0, 65536));
        int[] doors = {0, 0, 1, 1, 1, 2, 2};
        for (int letter = 1; letter <= 7; letter++) {
            T.fine("put", T.x.put(1), 1);
            T.boxes(0, letter - doors[letter - 1], doors[letter - 1]);
        }
        T.of("the door: every 8, of 8 letters the last", "hall boxes 2 letters 8" + A + ";door 1 every 8");
        T.chance("none ahead", w -> T.x.holds(0, 7, 0, 7, w), 1, 128);
        T.chance("the last", w -> T.x.holds(0, 8, 1, 0, w), 0, 1);
        T.of("the door: every 9, of 8 letters none", "hall boxes 2 letters 8" + A + ";door 1 every 9");
        T.chance("none", w -> T.x.holds(0, 8, 1, 0, w), 1, 256);
        T.of("no door told", "hall boxes 2 letters 1" + A);
        T.chance("by a glance", w -> T.x.goes(0, w), 1, 2);
        T.of("the door: without any glance", "hall boxes 2 letters 4;porter a draws 3 lot;door 0 every 2");
        T.due("put", T.x.put(1), 1);
        int seed = T.x.size(7);
        T.due("put", T.x.put(1), 1);
        T.due("no draw", T.x.size(7), seed);
        T.of("the door: nothing is remembered anew", "hall boxes 3 letters 4;porter a draws 1 recalls;door 1 every 2");
        T.place(1, 1);
        T.due("fuller now, but remembered", T.x.recall(), 1);
        T.place(0);
        T.due("remembered", T.x.recall(), 0);
        T.due("put", T.x.put(1), 1);
        T.due("remembered", T.x.recall(), 0);
        T.of("the door: its letter is remembered nowhere, if it is the first", "hall boxes 2 letters 1;porter a draws 1 recalls;door 1 every 1");
        T.place(1);
        T.due("nothing", T.x.recall(), -2);
    }

    private static void fullBoxes() {
        String full = ";box 0 room 1 weight 1;box 1 room 1 weight 1;box 2 room 2 weight 1";
        T.of("a full box: the next one that isn't has it", "hall boxes 3 letters 5" + full + A + ";door 0 every 1");
        T.chance("the first itself", w -> T.x.holds(0, 1, 0, 1, w), 1, 1);
        T.chance("the next", w -> T.x.holds(0, 2, 1, 1, w), 1, 1);
        T.chance("the one behind it", w -> T.x.holds(0, 3, 2, 1, w), 1, 1);
        T.of("a full box: round", "hall boxes 3 letters 5" + full + A + ";door 2 every 1");
        T.chance("the last till it is full", w -> T.x.holds(0, 2, 2, 2, w), 1, 1);
        T.chance("round to the first", w -> T.x.holds(0, 3, 0, 1, w), 1, 1);
        T.chance("then the second", w -> T.x.holds(0, 4, 1, 1, w), 1, 1);
        T.of("all are full: returned", "hall boxes 3 letters 6" + full + A + ";door 2 every 1");
        T.chance("none yet", w -> T.x.mean(0, 4, 2, w), 0, 1);
        T.chance("one", w -> T.x.mean(0, 5, 2, w), 1, 1);
        T.chance("two", w -> T.x.mean(0, 6, 2, w), 2, 1);
        T.chance("the boxes are as they were", w -> T.x.mean(0, 6, 3, w), 6, 1);
        T.due("put", T.x.put(8), 6);
        T.due("returned", T.x.size(6), 2);
        T.boxes(1, 1, 2);
        T.of("a taken box that is full: by glances too", "hall boxes 2 letters 3;box 0 room 1 weight 3;box 1 room 8 weight 1;porter a draws 1 lot");
        T.place(0);
        T.chance("all to the second", w -> T.x.goes(1, w), 1, 1);
        T.chance("none to the first", w -> T.x.goes(0, w), 0, 1);
        T.chance("behind two", w -> T.x.holds(0, 2, 1, 1, w), 15, 16);
        T.of("the emptiest is by letters, not by room", "hall boxes 2 letters 3;box 0 room 1 weight 1;porter a draws 2 left");
        T.place(1, 0);
        // both hold one: the first is taken, it is full, and the second has it
        T.chance("the next", w -> T.x.goes(1, w), 1, 1);
        T.place(1);
        T.boxes(1, 2);
    }

    private static void moves() {
        T.of("moves: behind each letter whose number its every goes into", "hall boxes 2 letters 8" + A + ";door 0 every 1;moves every 3");
        T.chance("behind two", w -> T.x.holds(0, 2, 0, 2, w), 1, 1);
        T.chance("behind three", w -> T.x.holds(0, 3, 0, 2, w), 1, 1);
        T.chance("behind five", w -> T.x.holds(0, 5, 0, 4, w), 1, 1);
        T.chance("behind six", w -> T.x.holds(0, 6, 0, 4, w), 1, 1);
        T.of("moves: every 1", "hall boxes 2 letters 8" + A + ";door 0 every 1;moves every 1");
        T.chance("behind one", w -> T.x.holds(0, 1, 0, 1, w), 1, 1);
        T.chance("behind two", w -> T.x.holds(0, 2, 0, 1, w), 1, 1);
        T.chance("behind eight", w -> T.x.holds(0, 8, 0, 4, w), 1, 1);
        T.of("moves: every 8, behind the last of 8", "hall boxes 2 letters 8" + A + ";door 0 every 1;moves every 8");
        T.chance("behind seven", w -> T.x.holds(0, 7, 0, 7, w), 1, 1);
        T.chance("behind eight", w -> T.x.holds(0, 8, 0, 7, w), 1, 1);
        T.of("moves: every 9, of 8 letters none", "hall boxes 2 letters 8" + A + ";door 0 every 1;moves every 9");
        T.chance("behind eight", w -> T.x.holds(0, 8, 0, 8, w), 1, 1);
        T.of("no moves told", "hall boxes 2 letters 8" + A + ";door 0 every 1");
        T.chance("behind eight", w -> T.x.holds(0, 8, 0, 8, w), 1, 1);
        T.of("moves: the first of the fullest", "hall boxes 3 letters 4" + A + ";moves every 4");
        T.place(1, 2, 2, 1);
        T.boxes(1, 1, 2);
        T.of("moves: to the first of the emptiest", "hall boxes 4 letters 2" + A + ";moves every 2");
        T.place(3, 3);
        T.boxes(1, 0, 0, 1);
        T.of("moves: the first of the emptiest, though it isn't the first box", "hall boxes 4 letters 4" + A + ";moves every 4");
        T.place(0, 3, 3, 3);
        T.boxes(1, 1, 0, 2);
    }

    private static void movesRefused() {
        T.of("moves: if it has 2 more", "hall boxes 2 letters 3" + A + ";moves every 3");
        T.place(0, 0, 0);
        T.boxes(2, 1);
        T.of("moves: not if it has 1 more", "hall boxes 2 letters 3" + A + ";moves every 3");
        T.place(0, 0, 1);
        T.boxes(2, 1);
        T.of("moves: if it has just 2 more", "hall boxes 2 letters 4" + A + ";moves every 4");
        T.place(1, 1, 1, 0);
        T.boxes(2, 2);
        T.of("moves: not if all have as many", "hall boxes 2 letters 2" + A + ";moves every 2");
        T.place(0, 1);
        T.boxes(1, 1);
        T.of("moves: one box alone", "hall boxes 1 letters 3" + A + ";moves every 1");
        T.place(0, 0, 0);
        T.boxes(3);
        T.of("moves: nothing, if the first of the emptiest is full, though another isn't", "hall boxes 3 letters 5;box 0 room 1 weight 1" + A + ";moves every 5");
        T.place(0, 1, 2, 2, 2);
        T.boxes(1, 1, 3);
        T.of("moves: of the emptiest the first has room, another has none", "hall boxes 3 letters 5;box 1 room 1 weight 1" + A + ";moves every 5");
        T.place(0, 1, 2, 2, 2);
        T.boxes(2, 1, 2);
        T.of("moves: behind a letter that is returned all are full, and nothing is moved", "hall boxes 2 letters 5;box 0 room 1 weight 1;box 1 room 3 weight 1" + A + ";moves every 5");
        T.due("put", T.x.put(5), 5);
        T.boxes(1, 3);
        T.chance("as on the day", w -> T.x.holds(0, 5, 1, 3, w), 1, 1);
    }

    private static void chances() {
        T.of("chances are in lowest terms", "hall boxes 4 letters 4;porter a draws 2 lot");
        T.chance("two of four", w -> T.x.holds(0, 1, 0, 1, w), 1, 4);
        T.chance("none", w -> T.x.fullest(0, 4, 5, w), 0, 1);
        T.chance("all", w -> T.x.fullest(0, 4, 0, w), 1, 1);
        T.chance("a whole mean", w -> T.x.mean(0, 1, 1, w), 3, 1);
        T.chance("a mean of nothing", w -> T.x.mean(0, 4, 2, w), 0, 1);
        T.of("behind k letters: 0 up to letters", "hall boxes 4 letters 3" + A);
        int[] bad = {-1, 4, 8, 9, Bounds.BIG, Bounds.SMALL};
        for (int k : bad) {
            T.noChance("fullest", w -> T.x.fullest(0, k, 0, w), 2);
            T.noChance("empty", w -> T.x.empty(0, k, 0, w), 2);
            T.noChance("holds", w -> T.x.holds(0, k, 0, 0, w), 2);
            T.noChance("mean", w -> T.x.mean(0, k, 0, w), 2);
            T.refused("states", T.x.states(0, k), 2);
            T.refused("worst", T.x.worst(0, k, true), 2);
            T.refused("compare", T.x.compare(0, 0, k, 0), 2);
            T.refused("never", T.x.never(k, 1), 2);
            T.refused("best", T.x.best(1, k, 0), 2);
            T.noChance("bestChance", w -> T.x.bestChance(1, k, 0, w), 2);
        }
        T.fine("k 0", T.x.states(0, 0), 1);
        T.fine("k 3", T.x.states(0, 3), 20);
        T.of("behind 0 letters of 0", "hall boxes 5 letters 0" + A + ";lay 0,0,0,0,0");
        T.fine("states", T.x.states(0, 0), 1);
        T.chance("lies", w -> T.x.lies(0, 0, w), 1, 1);
        T.refused("k 1", T.x.states(0, 1), 2);
    }

    private static void ways() {
        String heavy = "hall boxes 4 letters 8;box 0 room 8 weight 3;box 1 room 8 weight 3;box 2 room 8 weight 3";
        T.of("ways of just 1,000,000,000,000,000 aren't refused", heavy + ";porter a draws 3 left");
        // ten to the third for each of five letters
        T.chance("fullest", w -> T.x.fullest(0, 5, 0, w), 1, 1);
        T.chance("all in the last box: by glances that show it alone", w -> T.x.holds(0, 5, 3, 5, w), 1, 1000000000000000L);
        T.fine("worst", T.x.worst(0, 5, false), 5);
        T.of("ways above that are refused", heavy + ";porter a draws 3 left");
        T.noChance("fullest", w -> T.x.fullest(0, 6, 0, w), 3);
        T.noChance("empty", w -> T.x.empty(0, 6, 0, w), 3);
        T.noChance("holds", w -> T.x.holds(0, 6, 0, 0, w), 3);
        T.noChance("mean", w -> T.x.mean(0, 6, 2, w), 3);
        T.refused("states", T.x.states(0, 6), 3);
        T.refused("worst", T.x.worst(0, 6, true), 3);
        T.refused("compare", T.x.compare(0, 0, 6, 0), 3);
        T.refused("best", T.x.best(3, 6, 0), 3);
        T.noChance("bestChance", w -> T.x.bestChance(3, 6, 0, w), 3);
        T.refused("cannot", T.x.cannot(0), 3);
        T.of("ways of 15 to the thirteenth and more", "hall boxes 5 letters 8;box 0 room 8 weight 3;box 1 room 8 weight 3;box 2 room 8 weight 3;box 3 room 8 weight 3;box 4 room 8 weight 3;porter a draws 1 left;porter b draws 2 left;porter c draws 3 left");
        T.fine("8 glances", T.x.states(0, 8), 495);
        T.fine("12 glances", T.x.states(1, 6), 210);
        T.refused("14 glances", T.x.states(1, 7), 3);
        T.fine("12 glances", T.x.states(2, 4), 70);
        T.refused("15 glances", T.x.states(2, 5), 3);
        T.refused("24 glances", T.x.states(2, 8), 3);
    }

    private static void waysOfLots() {
        T.of("ways: times the least number that 1 up to the glances go into, if the rule is lot", "hall boxes 5 letters 8;porter a draws 3 lot;porter b draws 3 left;porter c draws 3 recalls");
        // 750 to the fifth and sixth, 125 to the seventh and eighth
        T.fine("lot", T.x.worst(0, 5, false), 5);
        T.refused("lot", T.x.worst(0, 6, false), 3);
        T.fine("left", T.x.worst(1, 7, false), 7);
        T.refused("left", T.x.worst(1, 8, false), 3);
        T.fine("recalls", T.x.worst(2, 7, true), 2);
        T.refused("recalls", T.x.worst(2, 8, true), 3);
        T.of("ways: three glances by lot are six times as many", "hall boxes 3 letters 8;porter a draws 3 lot;porter b draws 3 lazy 1");
        // 162 to the sixth; to the seventh it is 2,928,229,434,235,008; 27 to the eighth
        T.fine("lot", T.x.worst(0, 6, false), 6);
        T.refused("lot", T.x.worst(0, 7, false), 3);
        T.fine("lazy", T.x.worst(1, 8, false), 8);
        T.of("ways: two glances by lot are no more than two times as many", "hall boxes 5 letters 8;box 0 room 8 weight 2;porter a draws 2 lot");
        // 72 to the eighth is 722,204,136,308,736
        T.fine("lot", T.x.worst(0, 8, false), 8);
        T.of("ways: two glances by lot are two times as many", "hall boxes 5 letters 8;box 0 room 8 weight 3;box 1 room 8 weight 3;box 2 room 8 weight 3;box 3 room 8 weight 3;box 4 room 8 weight 1;porter a draws 2 lot;porter b draws 2 lazy 1;porter c draws 1 lot");
        // thirteen: 338 to the fifth, 169 to the sixth, and 338 to the sixth is 1,491,077,447,838,784
        T.fine("lot", T.x.worst(0, 5, false), 5);
        T.refused("lot", T.x.worst(0, 6, false), 3);
        T.fine("lazy", T.x.worst(1, 6, false), 6);
        T.fine("one glance by lot", T.x.worst(2, 8, false), 8);
    }

    private static void waysOfLetters() {
        String heavy = "hall boxes 4 letters 8;box 0 room 8 weight 3;box 1 room 8 weight 3;box 2 room 8 weight 3;porter a draws 3 left";
        T.of("ways: for each letter but the door's", heavy + ";door 0 every 4");
        T.fine("five of six", T.x.worst(0, 6, false), 6);
        T.refused("six of seven", T.x.worst(0, 7, false), 3);
        T.of("ways: the door's letters alone have one", heavy + ";door 0 every 1");
        T.fine("none of eight", T.x.worst(0, 8, false), 8);
        T.of("ways: for the returned letters too", "hall boxes 5 letters 8;box 0 room 1 weight 3;box 1 room 1 weight 3;box 2 room 1 weight 3;box 3 room 1 weight 3;box 4 room 1 weight 3;porter a draws 3 left");
        T.fine("four", T.x.states(0, 4), 5);
        T.refused("five", T.x.states(0, 5), 3);
        T.refused("eight", T.x.states(0, 8), 3);
        T.of("ways: returned letters, not above", "hall boxes 2 letters 8;box 0 room 1 weight 1;box 1 room 1 weight 1;porter a draws 3 left");
        T.fine("eight", T.x.states(0, 8), 1);
        T.chance("six of them", w -> T.x.mean(0, 8, 2, w), 6, 1);
    }

    private static void fullest() {
        T.of("6: m is 0 to 9", PAIR + A);
        int[] bad = {-1, 10, Bounds.BIG, Bounds.SMALL};
        for (int m : bad) {
            T.noChance("fullest of " + m, w -> T.x.fullest(0, 2, m, w), 2);
        }
        T.chance("0", w -> T.x.fullest(0, 2, 0, w), 1, 1);
        T.chance("9", w -> T.x.fullest(0, 2, 9, w), 0, 1);
        T.of("6: m letters or more", PAIR + A);
        T.chance("just as many always", w -> T.x.fullest(0, 2, 1, w), 1, 1);
        T.chance("just as many", w -> T.x.fullest(0, 2, 2, w), 1, 2);
        T.chance("one more", w -> T.x.fullest(0, 2, 3, w), 0, 1);
        T.of("6: refused by 1 ahead of 2 ahead of 3", "hall boxes 5 letters 8;porter a draws 3 lot");
        for (int p : new int[] {-1, 1, Bounds.BIG, Bounds.SMALL}) {
            T.noChance("porter " + p, w -> T.x.fullest(p, 9, 10, w), 1);
        }
        T.noChance("m", w -> T.x.fullest(0, 8, 10, w), 2);
        T.noChance("ways", w -> T.x.fullest(0, 8, 9, w), 3);
    }

    private static void empty() {
        T.of("7: e is 0 to 5", PAIR + A);
        int[] bad = {-1, 6, Bounds.BIG, Bounds.SMALL};
        for (int e : bad) {
            T.noChance("empty " + e, w -> T.x.empty(0, 2, e, w), 2);
        }
        T.chance("0", w -> T.x.empty(0, 2, 0, w), 1, 2);
        T.chance("5 of 2 boxes", w -> T.x.empty(0, 2, 5, w), 0, 1);
        T.of("7: 5 of 5 boxes", "hall boxes 5 letters 1" + A);
        T.chance("5", w -> T.x.empty(0, 0, 5, w), 1, 1);
        T.chance("4", w -> T.x.empty(0, 1, 4, w), 1, 1);
        T.of("7: just e boxes", "hall boxes 3 letters 3" + A);
        T.chance("0", w -> T.x.empty(0, 3, 0, w), 2, 9);
        T.chance("1", w -> T.x.empty(0, 3, 1, w), 2, 3);
        T.chance("2", w -> T.x.empty(0, 3, 2, w), 1, 9);
        T.chance("3", w -> T.x.empty(0, 3, 3, w), 0, 1);
        T.of("7: refused by 1 ahead of 2 ahead of 3", "hall boxes 5 letters 8;porter a draws 3 lot");
        T.noChance("porter", w -> T.x.empty(1, 9, 6, w), 1);
        T.noChance("porter", w -> T.x.empty(-1, 0, 0, w), 1);
        T.noChance("e", w -> T.x.empty(0, 8, 6, w), 2);
        T.noChance("ways", w -> T.x.empty(0, 8, 5, w), 3);
    }

    private static void holds() {
        T.of("8: c is 0 to 8", "hall boxes 2 letters 8" + A);
        int[] bad = {-1, 9, Bounds.BIG, Bounds.SMALL};
        for (int c : bad) {
            T.noChance("holds " + c, w -> T.x.holds(0, 2, 0, c, w), 2);
        }
        T.chance("0", w -> T.x.holds(0, 8, 0, 0, w), 1, 256);
        T.chance("8", w -> T.x.holds(0, 8, 1, 8, w), 1, 256);
        T.of("8: just c letters", PAIR + A);
        T.chance("0", w -> T.x.holds(0, 2, 0, 0, w), 1, 4);
        T.chance("1", w -> T.x.holds(0, 2, 0, 1, w), 1, 2);
        T.chance("2", w -> T.x.holds(0, 2, 0, 2, w), 1, 4);
        T.chance("3", w -> T.x.holds(0, 2, 0, 3, w), 0, 1);
        T.of("8: refused by 1 (porter, box) ahead of 2 ahead of 3", "hall boxes 5 letters 8;porter a draws 3 lot");
        T.noChance("porter", w -> T.x.holds(1, 9, 0, 9, w), 1);
        T.noChance("porter", w -> T.x.holds(-1, 0, 0, 0, w), 1);
        for (int b : new int[] {-1, 5, Bounds.BIG, Bounds.SMALL}) {
            T.noChance("box " + b, w -> T.x.holds(0, 9, b, 9, w), 1);
        }
        T.noChance("c", w -> T.x.holds(0, 8, 4, 9, w), 2);
        T.noChance("ways", w -> T.x.holds(0, 8, 4, 8, w), 3);
    }

    private static void mean() {
        T.of("9: what is 0 to 3", "hall boxes 2 letters 4;box 0 room 1 weight 1;box 1 room 2 weight 1" + A);
        int[] bad = {-1, 4, Bounds.BIG, Bounds.SMALL};
        for (int what : bad) {
            T.noChance("mean " + what, w -> T.x.mean(0, 2, what, w), 1);
        }
        T.chance("0", w -> T.x.mean(0, 2, 0, w), 5, 4);
        T.chance("1", w -> T.x.mean(0, 2, 1, w), 1, 4);
        T.chance("2", w -> T.x.mean(0, 4, 2, w), 1, 1);
        T.chance("3", w -> T.x.mean(0, 2, 3, w), 5, 2);
        T.of("9: of no letters", "hall boxes 2 letters 0" + A);
        T.chance("0", w -> T.x.mean(0, 0, 0, w), 0, 1);
        T.chance("1", w -> T.x.mean(0, 0, 1, w), 2, 1);
        T.chance("2", w -> T.x.mean(0, 0, 2, w), 0, 1);
        T.chance("3", w -> T.x.mean(0, 0, 3, w), 0, 1);
        T.of("9: of 8 letters in one box", "hall boxes 1 letters 8" + A);
        T.chance("0", w -> T.x.mean(0, 8, 0, w), 8, 1);
        T.chance("1", w -> T.x.mean(0, 8, 1, w), 0, 1);
        T.chance("3", w -> T.x.mean(0, 8, 3, w), 64, 1);
        T.of("9: just as many letters as there is room for, and one more", "hall boxes 1 letters 3;box 0 room 2 weight 1" + A);
        T.chance("as many", w -> T.x.mean(0, 2, 2, w), 0, 1);
        T.chance("one more", w -> T.x.mean(0, 3, 2, w), 1, 1);
        T.of("9: refused by 1 (porter, what) ahead of 2 ahead of 3", "hall boxes 5 letters 8;porter a draws 3 lot");
        T.noChance("porter", w -> T.x.mean(1, 9, 0, w), 1);
        T.noChance("porter", w -> T.x.mean(-1, 0, 0, w), 1);
        T.noChance("what", w -> T.x.mean(0, 9, 4, w), 1);
        T.noChance("k", w -> T.x.mean(0, 9, 2, w), 2);
        T.noChance("ways", w -> T.x.mean(0, 8, 2, w), 3);
    }

    private static void states() {
        T.of("10: of no letters one", "hall boxes 5 letters 8" + A);
        T.fine("states", T.x.states(0, 0), 1);
        T.fine("states", T.x.states(0, 1), 5);
        T.fine("states of all", T.x.states(0, 8), 495);
        T.of("10: of 8 letters in 1 to 4 boxes", "hall boxes 1 letters 8" + A);
        int[] all = {1, 9, 45, 165};
        for (int boxes = 1; boxes <= 4; boxes++) {
            T.hall("hall boxes " + boxes + " letters 8" + A);
            T.fine("states", T.x.states(0, 8), all[boxes - 1]);
            T.fine("least", T.x.worst(0, 8, true), (8 + boxes - 1) / boxes);
        }
        T.of("10: all full: one", "hall boxes 2 letters 8;box 0 room 1 weight 1;box 1 room 1 weight 1" + A);
        T.fine("states", T.x.states(0, 1), 2);
        T.fine("states", T.x.states(0, 2), 1);
        T.fine("states", T.x.states(0, 8), 1);
        T.of("10: ways boxes lie, whatever is remembered", "hall boxes 2 letters 2;porter a draws 2 recalls");
        T.fine("states", T.x.states(0, 1), 2);
        T.of("10: what can't be is none", "hall boxes 2 letters 2;porter a draws 1 beside");
        T.fine("states", T.x.states(0, 1), 1);
        T.fine("states", T.x.states(0, 2), 1);
        T.of("10: refused by 1 ahead of 2 ahead of 3", "hall boxes 5 letters 8;porter a draws 3 lot");
        T.refused("porter", T.x.states(-1, 9), 1);
        T.refused("porter", T.x.states(1, 9), 1);
        T.refused("k", T.x.states(0, 9), 2);
        T.refused("ways", T.x.states(0, 8), 3);
    }

    private static void worst() {
        T.of("11: of no letters 0", "hall boxes 3 letters 4" + A);
        T.fine("greatest", T.x.worst(0, 0, false), 0);
        T.fine("least", T.x.worst(0, 0, true), 0);
        T.fine("greatest", T.x.worst(0, 4, false), 4);
        T.fine("least", T.x.worst(0, 3, true), 1);
        T.fine("least", T.x.worst(0, 4, true), 2);
        T.of("11: that may be, by room", "hall boxes 2 letters 5;box 0 room 2 weight 1;box 1 room 1 weight 1" + A);
        T.fine("greatest", T.x.worst(0, 5, false), 2);
        T.fine("least", T.x.worst(0, 2, true), 1);
        T.fine("least", T.x.worst(0, 3, true), 2);
        T.of("11: refused by 1 ahead of 2 ahead of 3", "hall boxes 5 letters 8;porter a draws 3 lot");
        T.refused("porter", T.x.worst(-1, 9, true), 1);
        T.refused("porter", T.x.worst(1, 9, false), 1);
        T.refused("k", T.x.worst(0, 9, false), 2);
        T.refused("ways", T.x.worst(0, 8, true), 3);
    }

    private static void lies() {
        T.of("12: just as in a lay, behind all letters", PAIR + A + ";lay 1,1;lay 2,0;lay 1,0;lay 2,1;lay 0,0;lay 8,8");
        T.chance("one each", w -> T.x.lies(0, 0, w), 1, 2);
        T.chance("both in the first", w -> T.x.lies(0, 1, w), 1, 4);
        T.chance("too few", w -> T.x.lies(0, 2, w), 0, 1);
        T.chance("too many", w -> T.x.lies(0, 3, w), 0, 1);
        T.chance("none", w -> T.x.lies(0, 4, w), 0, 1);
        T.chance("far too many", w -> T.x.lies(0, 5, w), 0, 1);
        T.of("12: a lay above a box's room can't be", PAIR + ";box 0 room 1 weight 1" + A + ";lay 2,0;lay 1,1");
        T.chance("above", w -> T.x.lies(0, 0, w), 0, 1);
        T.chance("not above", w -> T.x.lies(0, 1, w), 3, 4);
        T.of("12: returned letters lie nowhere", "hall boxes 1 letters 3;box 0 room 2 weight 1" + A + ";lay 2;lay 3");
        T.chance("full", w -> T.x.lies(0, 0, w), 1, 1);
        T.chance("all", w -> T.x.lies(0, 1, w), 0, 1);
        T.of("12: refused by 1 (porter, lay) ahead of 3", "hall boxes 5 letters 8;porter a draws 3 lot;lay 8,0,0,0,0");
        T.noChance("porter", w -> T.x.lies(1, 0, w), 1);
        T.noChance("porter", w -> T.x.lies(-1, 0, w), 1);
        for (int lay : new int[] {-1, 1, 7, 8, Bounds.BIG, Bounds.SMALL}) {
            T.noChance("lay " + lay, w -> T.x.lies(0, lay, w), 1);
        }
        T.noChance("ways", w -> T.x.lies(0, 0, w), 3);
        T.of("12: no lays", PAIR + A);
        T.noChance("lay 0", w -> T.x.lies(0, 0, w), 1);
        T.of("12: the eighth lay", PAIR + A + ";lay 1,1;lay 1,1;lay 1,1;lay 1,1;lay 1,1;lay 1,1;lay 1,1;lay 0,2");
        T.chance("lay 7", w -> T.x.lies(0, 7, w), 1, 4);
        T.noChance("lay 8", w -> T.x.lies(0, 8, w), 1);
    }

    private static void compare() {
        T.of("13: -2 the first, 0 both alike, 2 the second", PAIR + ";porter a draws 1 left;porter b draws 2 left;porter c draws 2 left");
        T.fine("second", T.x.compare(0, 1, 2, 2), 2);
        T.fine("first", T.x.compare(1, 0, 2, 2), -2);
        T.fine("alike", T.x.compare(1, 2, 2, 2), 0);
        T.fine("itself", T.x.compare(1, 1, 2, 2), 0);
        T.fine("both sure", T.x.compare(0, 1, 2, 0), 0);
        T.fine("both never", T.x.compare(0, 1, 2, 9), 0);
        T.fine("behind none", T.x.compare(0, 1, 0, 1), 0);
        T.of("13: m is 0 to 9", PAIR + A);
        for (int m : new int[] {-1, 10, Bounds.BIG, Bounds.SMALL}) {
            T.refused("m " + m, T.x.compare(0, 0, 2, m), 2);
        }
        T.of("13: refused by 1 ahead of 2 ahead of 3 (of one of them)", "hall boxes 5 letters 8;porter a draws 3 lot;porter b draws 1 lot");
        for (int p : new int[] {-1, 2, Bounds.BIG, Bounds.SMALL}) {
            T.refused("porter " + p, T.x.compare(p, 1, 9, 10), 1);
            T.refused("other " + p, T.x.compare(1, p, 9, 10), 1);
        }
        T.refused("m", T.x.compare(0, 1, 8, 10), 2);
        T.refused("ways of the first", T.x.compare(0, 1, 8, 9), 3);
        T.refused("ways of the second", T.x.compare(1, 0, 8, 9), 3);
        T.refused("ways of both", T.x.compare(0, 0, 8, 9), 3);
        T.fine("of none", T.x.compare(1, 1, 8, 9), 0);
    }

    private static void never() {
        T.of("14: m is 1 to 9", "hall boxes 2 letters 8" + A);
        for (int m : new int[] {-1, 0, 10, Bounds.BIG, Bounds.SMALL}) {
            T.refused("m " + m, T.x.never(2, m), 2);
        }
        T.fine("m 1, no letters", T.x.never(0, 1), 1);
        T.fine("m 1", T.x.never(1, 1), -2);
        T.fine("m 8", T.x.never(8, 8), -2);
        T.fine("m 8, a letter fewer", T.x.never(7, 8), 1);
        T.fine("m 9", T.x.never(8, 9), 1);
        T.of("14: no way leaves so many, by room", "hall boxes 2 letters 8;box 0 room 2 weight 1;box 1 room 3 weight 1" + A);
        T.fine("the room", T.x.never(8, 3), -2);
        T.fine("one more", T.x.never(8, 4), 1);
        T.of("14: no way leaves so many, by what moves", "hall boxes 2 letters 4" + A + ";moves every 1");
        T.fine("half of them", T.x.never(4, 2), -2);
        T.fine("one more", T.x.never(4, 3), 1);
        T.of("14: it isn't refused by 3", "hall boxes 5 letters 8;box 0 room 8 weight 3;box 1 room 8 weight 3;box 2 room 8 weight 3;box 3 room 8 weight 3;box 4 room 8 weight 3" + A);
        T.fine("of ways above", T.x.never(8, 8), -2);
        T.fine("of ways above", T.x.never(8, 9), 1);
        T.of("14: 1 without a hall, ahead of 2");
        T.refused("no hall", T.x.never(0, 1), 1);
        T.refused("no hall", T.x.never(-1, 0), 1);
    }

    private static void best() {
        T.of("15: glances are 1 to 3", "hall boxes 2 letters 4" + A);
        for (int g : new int[] {-1, 0, 4, Bounds.BIG, Bounds.SMALL}) {
            T.refused("glances " + g, T.x.best(g, 0, 0), 2);
            T.noChance("glances " + g, w -> T.x.bestChance(g, 0, 0, w), 2);
        }
        T.fine("1", T.x.best(1, 4, 3), 0);
        // by 0 it is 17/32, as boxes of 2 and 1 are like ones then; by 1 it is 11/32; by 2 and more 1/2
        T.fine("2", T.x.best(2, 4, 3), 1);
        T.chance("2", w -> T.x.bestChance(2, 4, 3, w), 11, 32);
        // by 0 it is 65/128, by 1 it is 23/128
        T.fine("3", T.x.best(3, 4, 3), 1);
        T.chance("3", w -> T.x.bestChance(3, 4, 3, w), 23, 128);
        T.of("15: m is 0 to 9", "hall boxes 2 letters 8" + A);
        for (int m : new int[] {-1, 10, Bounds.BIG, Bounds.SMALL}) {
            T.refused("m " + m, T.x.best(1, 8, m), 2);
            T.noChance("m " + m, w -> T.x.bestChance(1, 8, m, w), 2);
        }
        T.of("15: the first such", "hall boxes 2 letters 8" + A);
        T.fine("all are sure", T.x.best(3, 8, 0), 0);
        T.fine("all never", T.x.best(3, 8, 9), 0);
        T.fine("behind none", T.x.best(3, 0, 1), 0);
        T.fine("one glance: all alike", T.x.best(1, 8, 8), 0);
        T.of("15: refused by 3", "hall boxes 5 letters 8" + A);
        T.fine("125 to the seventh", T.x.best(3, 7, 0), 0);
        T.refused("125 to the eighth", T.x.best(3, 8, 0), 3);
        T.refused("2 ahead of 3", T.x.best(3, 8, 10), 2);
        T.of("15: 1 without a hall, ahead of 2");
        T.refused("no hall", T.x.best(1, 0, 0), 1);
        T.refused("no hall", T.x.best(0, -1, -1), 1);
    }

    private static void bestChance() {
        T.of("16: by best", "hall boxes 2 letters 2" + A);
        T.chance("one glance", w -> T.x.bestChance(1, 2, 2, w), 1, 2);
        T.chance("two glances", w -> T.x.bestChance(2, 2, 2, w), 1, 4);
        T.chance("three glances", w -> T.x.bestChance(3, 2, 2, w), 1, 8);
        T.chance("m 0", w -> T.x.bestChance(3, 2, 0, w), 1, 1);
        T.chance("m 9", w -> T.x.bestChance(3, 2, 9, w), 0, 1);
        T.chance("k 0", w -> T.x.bestChance(3, 0, 1, w), 0, 1);
        T.of("16: likewise refused", "hall boxes 5 letters 8" + A);
        T.noChance("k", w -> T.x.bestChance(1, 9, 0, w), 2);
        T.noChance("ways", w -> T.x.bestChance(3, 8, 0, w), 3);
        T.noChance("2 ahead of 3", w -> T.x.bestChance(3, 8, 10, w), 2);
        T.of("16: 1 without a hall, ahead of 2");
        T.noChance("no hall", w -> T.x.bestChance(0, -1, -1, w), 1);
    }

    /** Never asks what may be, best how likely it is: of the same glances, one behind the other, and of porters of the hall. */
    private static void sideBySide() {
        String text = "hall boxes 2 letters 4;porter a draws 1 lazy 0;porter b draws 2 lazy 1;porter c draws 3 lazy 1;porter d draws 1 left;porter e draws 2 left;porter f draws 3 left";
        T.of("14 to 16: never, then best, then porters", text);
        T.fine("never", T.x.never(4, 1), -2);
        bests();
        T.of("14 to 16: best, then never, then porters", text);
        bests();
        T.fine("never", T.x.never(4, 1), -2);
        T.fine("never", T.x.never(3, 4), 1);
        bests();
        T.of("14 to 16: porters, then best, then never", text);
        T.fine("states", T.x.states(5, 4), 5);
        bests();
        T.fine("never", T.x.never(4, 4), -2);
        T.fine("never", T.x.never(4, 5), 1);
    }

    private static void bests() {
        for (int glances = 3; glances >= 1; glances--) {
            int of = glances;
            int[] upper = {5, 11, 23};
            int[] lower = {8, 32, 128};
            T.fine("best", T.x.best(of, 4, 3), of == 1 ? 0 : 1);
            T.chance("bestChance", w -> T.x.bestChance(of, 4, 3, w), upper[of - 1], lower[of - 1]);
            T.chance("a lazy porter", w -> T.x.fullest(of - 1, 4, 3, w), upper[of - 1], lower[of - 1]);
        }
        T.chance("a left one", w -> T.x.fullest(3, 4, 4, w), 1, 8);
        T.chance("a left one", w -> T.x.holds(4, 4, 1, 4, w), 1, 256);
        T.chance("a left one", w -> T.x.holds(5, 4, 1, 4, w), 1, 4096);
    }

    private static void likely() {
        T.of("17: the first such", PAIR + ";porter a draws 1 lot;porter b draws 2 left;porter c draws 2 lot;lay 1,1");
        T.fine("b and c alike, a less", T.x.likely(), 1);
        T.of("17: all of them together", PAIR + ";porter a draws 3 left;porter b draws 1 left;lay 1,1;lay 0,2;lay 0,2");
        T.fine("rare ones weigh", T.x.likely(), 1);
        T.of("17: -2 if all are without a chance by each", PAIR + ";porter a draws 1 left;porter b draws 2 lot;lay 1,1;lay 1,2");
        T.fine("none", T.x.likely(), -2);
        T.of("17: not if one has a chance", PAIR + ";porter a draws 1 beside;porter b draws 3 left;lay 0,2");
        T.fine("the second", T.x.likely(), 1);
        T.of("17: eight lays", "hall boxes 5 letters 8;porter a draws 1 left;porter b draws 2 left;lay 8,0,0,0,0;lay 0,8,0,0,0;lay 0,0,8,0,0;lay 0,0,0,8,0;lay 0,0,0,0,8;lay 8,0,0,0,0;lay 8,0,0,0,0;lay 0,0,0,0,8");
        // by one glance each is 1 of 5 to the eighth, by two of 25 to the eighth but for the first letter
        T.fine("products beyond a long", T.x.likely(), 0);
        T.hall("hall boxes 5 letters 8;porter b draws 2 left;porter a draws 1 left;lay 8,0,0,0,0;lay 0,8,0,0,0;lay 0,0,8,0,0;lay 0,0,0,8,0;lay 0,0,0,0,8;lay 8,0,0,0,0;lay 8,0,0,0,0;lay 0,0,0,0,8");
        T.fine("products beyond a long", T.x.likely(), 1);
        T.hall("hall boxes 5 letters 8;porter b draws 2 left;porter c draws 2 left;porter a draws 1 left;lay 2,2,2,1,1;lay 1,2,2,2,1;lay 1,1,2,2,2;lay 2,1,1,2,2;lay 2,2,1,1,2;lay 2,1,2,1,2;lay 1,2,1,2,2;lay 2,2,2,1,1");
        T.fine("products beyond a long, alike", T.x.likely(), 0);
        T.of("17: of six porters the last", "hall boxes 2 letters 1;porter a draws 1 left;porter b draws 2 left;porter c draws 1 beside;porter d draws 2 lot;porter e draws 1 recalls;porter f draws 3 left;lay 1,0;lay 0,1;lay 1,0;lay 1,0;lay 1,0;lay 1,0;lay 1,0;lay 1,0");
        // by f seven times 7/8 and once 1/8, 0.049; by b seven times 3/4 and once 1/4, 0.033; by a, d, e 1/2 each, by c none
        T.fine("the last", T.x.likely(), 5);
        T.of("17: a porter of an earlier hall is none of this one");
        for (int i = 0; i < 3; i++) {
            T.hall(PAIR + ";porter a draws 1 left;porter b draws 3 left;lay 1,1");
            T.fine("the second", T.x.likely(), 1);
            T.hall(PAIR + ";porter a draws 1 left;lay 1,1");
            T.fine("the only one", T.x.likely(), 0);
        }
        T.of("17: refused by 1 without a hall");
        T.refused("no hall", T.x.likely(), 1);
        T.of("17: refused by 6 without lays, ahead of 3", "hall boxes 5 letters 8;porter a draws 3 lot");
        T.refused("no lays", T.x.likely(), 6);
        T.of("17: refused by 3 of any porter", "hall boxes 5 letters 8;porter a draws 1 lot;porter b draws 1 lot;porter c draws 3 lot;lay 8,0,0,0,0");
        T.refused("the last", T.x.likely(), 3);
        T.hall("hall boxes 5 letters 8;porter a draws 3 lot;porter b draws 1 lot;lay 8,0,0,0,0");
        T.refused("the first", T.x.likely(), 3);
        T.hall("hall boxes 5 letters 8;porter a draws 1 lot;porter b draws 1 lot;lay 8,0,0,0,0");
        T.fine("none", T.x.likely(), 0);
    }

    private static void cannot() {
        String lays = ";lay 1,1;lay 1,0;lay 1,1;lay 1,1;lay 1,1;lay 1,1;lay 1,1;lay 2,1";
        T.of("18: as bits, the first lay the lowest", PAIR + ";porter a draws 1 left;porter b draws 1 beside" + lays);
        T.fine("second and eighth", T.x.cannot(0), 2 + 128);
        T.fine("by the other too", T.x.cannot(1), 2 + 128);
        T.of("18: all, and none", PAIR + ";porter a draws 1 left;porter b draws 1 beside;lay 2,0;lay 0,2");
        T.fine("none", T.x.cannot(0), 0);
        T.fine("all", T.x.cannot(1), 3);
        T.of("18: a lay of fewer boxes than an earlier hall's", "hall boxes 5 letters 5" + A + ";lay 1,1,1,1,1");
        for (int i = 0; i < 3; i++) {
            T.hall(PAIR + A + ";lay 1,1");
            T.fine("it can be", T.x.cannot(0), 0);
            T.chance("lies", w -> T.x.lies(0, 0, w), 1, 2);
        }
        T.of("18: no lays", PAIR + A);
        T.fine("none", T.x.cannot(0), 0);
        T.of("18: refused by 1 ahead of 3", "hall boxes 5 letters 8;porter a draws 3 lot;lay 8,0,0,0,0");
        for (int p : new int[] {-1, 1, Bounds.BIG, Bounds.SMALL}) {
            T.refused("porter " + p, T.x.cannot(p), 1);
        }
        T.refused("ways", T.x.cannot(0), 3);
    }
}
