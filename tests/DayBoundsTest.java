/** The sentences on days, marks and what is seen (Terms, III and IV; promises 19 to 31) that name a boundary case, each by itself. */
public final class DayBoundsTest {
    private static final Bounds T = new Bounds("DayBoundsTest");
    private static final String A = ";porter a draws 1 left";
    private static final String PAIR = "hall boxes 2 letters 2";

    public static void main(String[] args) {
        seeds();
        glances();
        lots();
        draws();
        lazyDraws();
        day();
        put();
        goes();
        goesByRule();
        place();
        placeRemembering();
        placeBehind();
        box();
        recall();
        mark();
        back();
        porter();
        boxOf();
        led();
        size();
        trouble();
        troubleLeft();
        refusedChangesNothing();
        manyCalls();
        T.end();
    }

    private static void seeds() {
        T.of("seed becomes (75 times seed and 74) mod 65,537", "hall boxes 1 letters 8" + A);
        int[] from = {0, 1, 873, 65535, 65536};
        // 75 times 873 and 74 is 65,549, the least that is above
        int[] then = {74, 149, 12, 65461, 65536};
        for (int i = 0; i < from.length; i++) {
            T.fine("day", T.x.day(0, from[i]));
            T.fine("put", T.x.put(1), 1);
            T.due("seed behind " + from[i], T.x.size(7), then[i]);
        }
        T.of("seed becomes: letter by letter", "hall boxes 1 letters 8" + A);
        int seed = 0;
        for (int i = 0; i < 8; i++) {
            seed = behind(seed);
            T.fine("put", T.x.put(1), 1);
            T.due("seed", T.x.size(7), seed);
        }
        T.of("seed 65,536 becomes 65,536", "hall boxes 3 letters 8;porter a draws 3 lot");
        T.fine("day", T.x.day(0, 65536));
        T.fine("put", T.x.put(8), 8);
        T.due("seed", T.x.size(7), 65536);
    }

    /** The box that the first letter of a day goes to. */
    private static void glance(int seed, int want) {
        T.fine("day", T.x.day(0, seed));
        T.fine("put", T.x.put(1), 1);
        T.due("box of seed " + seed, T.x.box(want), 1);
    }

    private static void glances() {
        T.of("counted off box by box, each its weight", "hall boxes 3 letters 1;box 0 room 8 weight 2;box 1 room 8 weight 1;box 2 room 8 weight 3" + A);
        int[] shown = {0, 0, 1, 2, 2, 2};
        for (int at = 0; at < 6; at++) {
            glance(beforeThe(600 + at), shown[at]);
        }
        T.of("counted off: each box of one weight", "hall boxes 5 letters 1" + A);
        for (int at = 0; at < 5; at++) {
            glance(beforeThe(1000 + at), at);
        }
        T.of("counted off: the last of the last box's weight", "hall boxes 5 letters 1;box 4 room 8 weight 3" + A);
        int[] boxes = {0, 1, 2, 3, 4, 4, 4};
        for (int at = 0; at < 7; at++) {
            glance(beforeThe(7000 + at), boxes[at]);
        }
    }

    /** The seed that becomes this one. */
    private static int beforeThe(int seed) {
        for (int before = 0; before <= 65536; before++) {
            if (behind(before) == seed) {
                return before;
            }
        }
        return -1;
    }

    private static void lots() {
        T.of("lot: no draw if one glance alone shows the emptiest", "hall boxes 2 letters 2;porter a draws 2 lot");
        // 899 is odd, 1962 even: both boxes are seen, and the first is the emptier
        T.fine("day", T.x.day(0, 11));
        T.place(1);
        T.fine("put", T.x.put(1), 1);
        T.due("two draws", T.x.size(7), 1962);
        T.boxes(1, 1);
        T.of("lot: a draw if two glances show the same box", "hall boxes 1 letters 1;porter a draws 2 lot");
        T.fine("put", T.x.put(1), 1);
        T.due("three draws", T.x.size(7), 28652);
        T.of("lot: one glance draws no lot", "hall boxes 1 letters 1;porter a draws 1 lot");
        T.fine("put", T.x.put(1), 1);
        T.due("one draw", T.x.size(7), 74);
        T.of("lot: a draw mod how many: that of these, of two", "hall boxes 2 letters 1;porter a draws 2 lot");
        // 899, 1962 and 16150: the second box, the first, and the lot is the first glance
        T.fine("day", T.x.day(0, 11));
        T.fine("put", T.x.put(1), 1);
        T.boxes(0, 1);
        // the second box, the first, and the lot is the second glance
        T.fine("day", T.x.day(0, oddEvenOdd()));
        T.fine("put", T.x.put(1), 1);
        T.boxes(1, 0);
        T.of("lot: of three glances two show the emptiest", "hall boxes 2 letters 2;porter a draws 3 lot");
        T.fine("day", T.x.day(0, 11));
        T.place(1);
        // 899, 1962, 16150: the second, and twice the first, which alone is the emptiest: a draw, though it is one box
        T.fine("put", T.x.put(1), 1);
        T.boxes(1, 1);
        T.due("four draws", T.x.size(7), behind(16150));
        T.of("lot: of three glances all show the emptiest", "hall boxes 5 letters 1;porter a draws 3 lot");
        for (int seed = 0; seed < 20; seed++) {
            int[] draw = {behind(seed), behind(behind(seed)), behind(behind(behind(seed)))};
            glance(seed, draw[behind(draw[2]) % 3] % 5);
        }
    }

    /** What a seed becomes. */
    private static int behind(int seed) {
        return (int) ((75L * seed + 74) % 65537);
    }

    private static int oddEvenOdd() {
        for (int seed = 0; seed <= 65536; seed++) {
            int first = behind(seed);
            int second = behind(first);
            if (first % 2 == 1 && second % 2 == 0 && behind(second) % 2 == 1) {
                return seed;
            }
        }
        return -1;
    }

    private static void draws() {
        T.of("a porter has all its glances, whatever its rule", "hall boxes 5 letters 2;porter a draws 3 left;porter b draws 3 lazy 8;porter c draws 3 beside;porter d draws 3 recalls;porter e draws 2 lazy 0");
        int[] seeds = {28652, 28652, 28652, 28652, 5624};
        for (int p = 0; p < 5; p++) {
            T.fine("day", T.x.day(p, 0));
            T.fine("put", T.x.put(1), 1);
            T.due("seed by porter " + p, T.x.size(7), seeds[p]);
        }
        T.of("a returned letter has its glances too", "hall boxes 1 letters 2;box 0 room 1 weight 1" + A);
        T.fine("put", T.x.put(2), 2);
        T.due("returned", T.x.size(6), 1);
        T.due("seed", T.x.size(7), 5624);
    }

    private static void lazyDraws() {
        T.of("lazy: the first that shows no more than told, or the last", "hall boxes 2 letters 3;porter a draws 2 lazy 0;porter b draws 2 lazy 1");
        // 899 is odd, 1962 even
        T.fine("day", T.x.day(0, 11));
        T.place(1);
        T.fine("put", T.x.put(1), 1);
        T.boxes(1, 1);
        T.fine("day", T.x.day(1, 11));
        T.place(1);
        T.fine("put", T.x.put(1), 1);
        T.boxes(0, 2);
        T.fine("day", T.x.day(0, 11));
        T.place(0, 1);
        T.fine("put", T.x.put(1), 1);
        T.boxes(2, 1);
        T.of("lazy: the last of so many glances", "hall boxes 2 letters 8;porter a draws 3 lot;porter b draws 1 lazy 0;porter c draws 2 lazy 0");
        // of two boxes an odd seed shows the second: by one glance, by two of which the second is odd
        int[] seeds = {1, 3, 5, beforeThe(1), beforeThe(beforeThe(1)), beforeThe(beforeThe(7))};
        for (int i = 0; i < 6; i++) {
            // three glances at the first box, ahead of this day
            T.fine("day", T.x.day(0, 0));
            T.fine("put", T.x.put(1), 1);
            T.fine("day", T.x.day(i < 4 ? 1 : 2, seeds[i]));
            T.place(0, 1);
            T.fine("put", T.x.put(1), 1);
            T.boxes(1, 2);
        }
    }

    private static void day() {
        T.of("19: seed 0 to 65,536", PAIR + A);
        T.fine("0", T.x.day(0, 0));
        T.due("seed", T.x.size(7), 0);
        T.fine("65536", T.x.day(0, 65536));
        T.due("seed", T.x.size(7), 65536);
        for (int seed : new int[] {-1, 65537, Bounds.BIG, Bounds.SMALL}) {
            T.refused("seed " + seed, T.x.day(0, seed), 2);
        }
        T.due("the day stays", T.x.size(7), 65536);
        T.of("19: refused by 1 ahead of 2", PAIR + A + ";porter b draws 1 left");
        T.fine("day", T.x.day(1, 3));
        for (int p : new int[] {-1, 2, Bounds.BIG, Bounds.SMALL}) {
            T.refused("porter " + p, T.x.day(p, -1), 1);
        }
        T.due("the day stays", T.x.size(4), 1);
        T.of("19: without a hall");
        T.refused("day", T.x.day(0, 0), 1);
        T.refused("day", T.x.day(0, -1), 1);
        T.of("19: all boxes empty", "hall boxes 2 letters 4;box 0 room 1 weight 1;box 1 room 1 weight 1;porter a draws 1 recalls");
        T.fine("put", T.x.put(4), 4);
        T.fine("day", T.x.day(0, 0));
        T.boxes(0, 0);
        T.due("letters", T.x.size(5), 0);
        T.due("returned", T.x.size(6), 0);
        T.due("nothing remembered", T.x.recall(), -2);
        T.of("19: marks stay", PAIR + A);
        T.fine("mark", T.x.mark(), 0);
        T.fine("day", T.x.day(0, 1));
        T.due("marks", T.x.size(8), 1);
    }

    private static void put() {
        T.of("20: 1 to 8", "hall boxes 2 letters 8" + A);
        for (int n : new int[] {-1, 0, 9, Bounds.BIG, Bounds.SMALL}) {
            T.refused("put " + n, T.x.put(n), 2);
        }
        T.due("letters", T.x.size(5), 0);
        T.fine("1", T.x.put(1), 1);
        T.fine("8 of 7", T.x.put(8), 7);
        T.fine("day", T.x.day(0, 0));
        T.fine("8", T.x.put(8), 8);
        T.of("20: till all of the hall's were", "hall boxes 2 letters 3" + A);
        T.fine("2", T.x.put(2), 2);
        T.fine("2 of 1", T.x.put(2), 1);
        T.due("letters", T.x.size(5), 3);
        T.fine("day", T.x.day(0, 0));
        T.fine("3", T.x.put(3), 3);
        T.of("20: refused by 6 (all were)", "hall boxes 2 letters 1" + A);
        T.fine("put", T.x.put(1), 1);
        int seed = T.x.size(7);
        T.refused("put", T.x.put(1), 6);
        T.due("seed", T.x.size(7), seed);
        T.of("20: refused by 6, no letters at all", "hall boxes 2 letters 0" + A);
        T.refused("put", T.x.put(1), 6);
        T.refused("2 ahead of 6", T.x.put(0), 2);
        T.refused("2 ahead of 6", T.x.put(9), 2);
        T.of("20: refused by 1 without a hall, ahead of 2");
        T.refused("put", T.x.put(1), 1);
        T.refused("put", T.x.put(0), 1);
        T.of("20: returned letters are put too", "hall boxes 1 letters 4;box 0 room 1 weight 1" + A);
        T.fine("put", T.x.put(4), 4);
        T.boxes(1);
        T.due("returned", T.x.size(6), 3);
    }

    private static void goes() {
        T.of("21: refused by 1 (no box, no hall)");
        T.noChance("no hall", w -> T.x.goes(0, w), 1);
        T.hall(PAIR + A);
        for (int b : new int[] {-1, 2, 5, Bounds.BIG, Bounds.SMALL}) {
            T.noChance("box " + b, w -> T.x.goes(b, w), 1);
        }
        T.chance("box 1", w -> T.x.goes(1, w), 1, 2);
        T.of("21: refused by 6 (there is no next letter), 1 ahead of it", PAIR + A);
        T.fine("put", T.x.put(2), 2);
        T.noChance("goes", w -> T.x.goes(0, w), 6);
        T.noChance("goes", w -> T.x.goes(2, w), 1);
        T.of("21: refused by 6, no letters at all", "hall boxes 2 letters 0" + A);
        T.noChance("goes", w -> T.x.goes(1, w), 6);
        T.of("21: a full box", "hall boxes 3 letters 5;box 1 room 1 weight 1;box 2 room 1 weight 1" + A);
        T.place(1);
        T.chance("full", w -> T.x.goes(1, w), 0, 1);
        T.chance("the next", w -> T.x.goes(2, w), 2, 3);
        T.place(2);
        T.chance("round", w -> T.x.goes(0, w), 1, 1);
        T.of("21: a letter that is returned goes to no box", "hall boxes 2 letters 3;box 0 room 1 weight 1;box 1 room 1 weight 1" + A);
        T.place(0, 1);
        T.chance("first", w -> T.x.goes(0, w), 0, 1);
        T.chance("second", w -> T.x.goes(1, w), 0, 1);
    }

    private static void goesByRule() {
        T.of("21: ahead of what moves", PAIR + A + ";moves every 2");
        T.place(0);
        T.chance("it goes there, and then lies elsewhere", w -> T.x.goes(0, w), 1, 2);
        T.of("21: the door's letter", PAIR + A + ";door 1 every 2");
        T.chance("not yet", w -> T.x.goes(0, w), 1, 2);
        T.place(0);
        T.chance("the door's", w -> T.x.goes(1, w), 1, 1);
        T.chance("not the door's", w -> T.x.goes(0, w), 0, 1);
        T.of("21: the door's full box", "hall boxes 2 letters 2;box 1 room 1 weight 1" + A + ";door 1 every 1");
        T.place(1);
        T.chance("round", w -> T.x.goes(0, w), 1, 1);
        T.of("21: it isn't refused by ways", "hall boxes 5 letters 8;porter a draws 3 lot");
        T.place(0, 0, 0, 0, 0, 0, 0);
        T.chance("the eighth", w -> T.x.goes(0, w), 1, 125);
    }

    private static void place() {
        T.of("22: refused by 1 (no box, no hall)");
        T.refused("no hall", T.x.place(0), 1);
        T.hall(PAIR + A);
        for (int b : new int[] {-1, 2, 5, Bounds.BIG, Bounds.SMALL}) {
            T.refused("box " + b, T.x.place(b), 1);
        }
        T.due("letters", T.x.size(5), 0);
        T.fine("box 1", T.x.place(1), 1);
        T.of("22: refused by 6 (there is no letter any more), ahead of 5, 1 ahead of it", "hall boxes 2 letters 1;porter a draws 1 beside");
        T.refused("it can't", T.x.place(1), 5);
        T.fine("place", T.x.place(0), 1);
        T.refused("none more", T.x.place(0), 6);
        T.refused("none more, and it couldn't", T.x.place(1), 6);
        T.refused("no box", T.x.place(2), 1);
        T.of("22: refused by 6, no letters at all", "hall boxes 2 letters 0" + A);
        T.refused("place", T.x.place(0), 6);
        T.of("22: refused by 5 (it can't): full", "hall boxes 2 letters 3;box 0 room 1 weight 1;box 1 room 1 weight 1" + A);
        T.fine("place", T.x.place(0), 1);
        T.refused("full", T.x.place(0), 5);
        T.fine("place", T.x.place(1), 1);
        T.refused("all are full", T.x.place(0), 5);
        T.refused("all are full", T.x.place(1), 5);
        T.fine("it may be put", T.x.put(1), 1);
        T.of("22: refused by 5: not the door's box", PAIR + A + ";door 1 every 1");
        T.refused("place", T.x.place(0), 5);
        T.fine("place", T.x.place(1), 1);
        T.of("22: the least chance will do", "hall boxes 5 letters 8;box 0 room 8 weight 3;box 1 room 8 weight 3;box 2 room 8 weight 3;box 3 room 8 weight 3;porter a draws 3 left");
        for (int i = 1; i <= 8; i++) {
            T.fine("place", T.x.place(4), i);
        }
    }

    private static void placeRemembering() {
        T.of("22: recalls: by the glances that lead there it must remember the same", "hall boxes 3 letters 4;porter a draws 2 recalls");
        // seen the first twice, or with another, which is emptier then
        T.refused("first", T.x.place(0), 5);
        // seen the second twice, or with the third
        T.refused("second", T.x.place(1), 5);
        T.fine("third: seen alone", T.x.place(2), 1);
        T.due("recall", T.x.recall(), 2);
        T.of("22: recalls: one glance at first", "hall boxes 3 letters 4;porter a draws 1 recalls");
        T.fine("place", T.x.place(1), 1);
        // seen it again, it has two then; the first has none and is emptier
        T.fine("place", T.x.place(1), 2);
        T.due("recall", T.x.recall(), 1);
        T.fine("place", T.x.place(0), 1);
        T.due("recall", T.x.recall(), 0);
        T.refused("fuller than the remembered one", T.x.place(1), 5);
        T.of("22: recalls: the door's letter is remembered as what was", "hall boxes 3 letters 4;porter a draws 2 recalls;door 0 every 2");
        T.fine("third", T.x.place(2), 1);
        T.fine("the door's", T.x.place(0), 1);
        T.due("recall", T.x.recall(), 2);
        T.of("22: of other rules nothing is remembered", "hall boxes 3 letters 4;porter a draws 2 left");
        T.fine("first", T.x.place(0), 1);
        T.due("recall", T.x.recall(), -2);
    }

    private static void placeBehind() {
        T.of("22: how many letters the box has behind what moves", "hall boxes 2 letters 3" + A + ";moves every 2");
        T.fine("place", T.x.place(0), 1);
        T.fine("one is moved away", T.x.place(0), 1);
        T.boxes(1, 1);
        T.fine("place", T.x.place(1), 2);
        T.of("22: one is moved there", "hall boxes 3 letters 5;porter a draws 1 left;moves every 5");
        T.place(0, 0, 0, 1);
        // 3, 1, 1: the first gives one to the second, the first of the emptiest
        T.fine("place", T.x.place(2), 1);
        T.boxes(2, 2, 1);
        T.of("22: it draws nothing", "hall boxes 3 letters 5;porter a draws 3 lot");
        T.place(0, 1, 2);
        T.due("seed", T.x.size(7), 0);
        T.of("22: refused it changes nothing", "hall boxes 2 letters 5;porter a draws 1 beside");
        T.refused("place", T.x.place(1), 5);
        T.due("letters", T.x.size(5), 0);
        T.boxes(0, 0);
    }

    private static void box() {
        T.of("23: refused by 1");
        T.refused("no hall", T.x.box(0), 1);
        T.hall("hall boxes 5 letters 2" + A);
        for (int b : new int[] {-1, 5, 6, Bounds.BIG, Bounds.SMALL}) {
            T.refused("box " + b, T.x.box(b), 1);
        }
        for (int b = 0; b < 5; b++) {
            T.fine("box " + b, T.x.box(b), 0);
        }
        T.of("23: refused by 1, of fewer boxes", "hall boxes 1 letters 2" + A);
        T.refused("box 1", T.x.box(1), 1);
        T.place(0, 0);
        T.fine("box 0", T.x.box(0), 2);
    }

    private static void recall() {
        T.of("24: refused by 1 without a hall");
        T.refused("recall", T.x.recall(), 1);
        T.of("24: -2 none", "hall boxes 2 letters 2;porter a draws 1 left;porter b draws 1 recalls");
        T.fine("at first", T.x.recall(), -2);
        T.place(1);
        T.fine("of another rule", T.x.recall(), -2);
        T.fine("put", T.x.put(1), 1);
        T.fine("of another rule", T.x.recall(), -2);
        T.fine("day", T.x.day(1, 0));
        T.fine("at first", T.x.recall(), -2);
        T.place(1);
        T.fine("recall", T.x.recall(), 1);
        T.fine("day", T.x.day(1, 0));
        T.fine("a day anew", T.x.recall(), -2);
        T.of("24: behind a letter that is returned", "hall boxes 2 letters 3;box 0 room 1 weight 1;box 1 room 1 weight 1;porter a draws 1 recalls");
        T.place(1);
        T.fine("put", T.x.put(2), 2);
        T.due("returned", T.x.size(6), 1);
        T.fine("of like ones the least number, if seen", T.x.recall(), 0);
        T.of("24: box 4", "hall boxes 5 letters 1;porter a draws 1 recalls");
        T.place(4);
        T.fine("recall", T.x.recall(), 4);
    }

    private static void mark() {
        T.of("25: up to 3, from 0 on", PAIR + A);
        for (int i = 0; i < 3; i++) {
            T.fine("mark", T.x.mark(), i);
            T.due("marks", T.x.size(8), i + 1);
        }
        T.refused("a fourth", T.x.mark(), 3);
        T.refused("a fourth", T.x.mark(), 3);
        T.due("marks", T.x.size(8), 3);
        T.of("25: room anew by another hall", PAIR + A);
        for (int i = 0; i < 3; i++) {
            T.fine("mark", T.x.mark(), i);
        }
        T.hall(PAIR + A);
        T.due("marks", T.x.size(8), 0);
        T.fine("mark", T.x.mark(), 0);
        T.of("25: refused by 1 without a hall");
        T.refused("mark", T.x.mark(), 1);
        T.of("25: a day that is over may be marked", "hall boxes 2 letters 0" + A);
        T.fine("mark", T.x.mark(), 0);
    }

    private static void back() {
        T.of("26: refused by 1");
        T.refused("no hall", T.x.back(0), 1);
        T.hall("hall boxes 2 letters 4" + A);
        T.refused("no mark", T.x.back(0), 1);
        T.place(0);
        T.fine("mark", T.x.mark(), 0);
        T.place(1);
        for (int mark : new int[] {-1, 1, 2, 3, Bounds.BIG, Bounds.SMALL}) {
            T.refused("mark " + mark, T.x.back(mark), 1);
        }
        T.boxes(1, 1);
        T.of("26: all marks stay", "hall boxes 2 letters 4" + A);
        T.fine("mark", T.x.mark(), 0);
        T.place(0);
        T.fine("mark", T.x.mark(), 1);
        T.place(0);
        T.fine("mark", T.x.mark(), 2);
        T.fine("back", T.x.back(0));
        T.boxes(0, 0);
        T.due("marks", T.x.size(8), 3);
        T.fine("forth", T.x.back(2));
        T.boxes(2, 0);
        T.fine("back", T.x.back(1));
        T.boxes(1, 0);
        T.place(1, 1);
        T.fine("the same again", T.x.back(1));
        T.boxes(1, 0);
        T.of("26: the day is as by a mark: all of it", "hall boxes 2 letters 4;box 0 room 1 weight 1;box 1 room 1 weight 1;porter a draws 1 left;porter b draws 1 recalls");
        T.fine("day", T.x.day(1, 9));
        T.fine("put", T.x.put(3), 3);
        int seed = T.x.size(7);
        int remembered = T.x.recall();
        T.fine("mark", T.x.mark(), 0);
        T.fine("day", T.x.day(0, 1));
        T.fine("back", T.x.back(0));
        T.due("porter", T.x.size(4), 1);
        T.due("letters", T.x.size(5), 3);
        T.due("returned", T.x.size(6), 1);
        T.due("seed", T.x.size(7), seed);
        T.due("remembered", T.x.recall(), remembered);
        T.boxes(1, 1);
        T.fine("the last letter", T.x.put(8), 1);
        T.refused("none more", T.x.put(8), 6);
        T.fine("back", T.x.back(0));
        T.fine("the last letter again", T.x.put(8), 1);
    }

    private static void porter() {
        T.of("27: refused by 1");
        T.refused("no hall", T.x.porter(0, 0), 1);
        T.hall(PAIR + ";porter a draws 1 lot;porter b draws 2 left;porter c draws 3 lazy 0;porter d draws 1 lazy 8;porter e draws 2 beside;porter f draws 3 recalls");
        for (int p : new int[] {-1, 6, Bounds.BIG, Bounds.SMALL}) {
            T.refused("porter " + p, T.x.porter(p, 0), 1);
        }
        for (int what : new int[] {-1, 3, Bounds.BIG, Bounds.SMALL}) {
            T.refused("what " + what, T.x.porter(0, what), 1);
        }
        int[] rules = {0, 1, 2, 2, 3, 4};
        int[] lazy = {-2, -2, 0, 8, -2, -2};
        for (int p = 0; p < 6; p++) {
            T.fine("glances", T.x.porter(p, 0), 1 + p % 3);
            T.fine("rule", T.x.porter(p, 1), rules[p]);
            T.fine("lazy", T.x.porter(p, 2), lazy[p]);
        }
        T.of("27: of fewer porters", PAIR + A);
        T.refused("porter 1", T.x.porter(1, 0), 1);
        T.of("27: how lazy is of this hall", PAIR + ";porter a draws 1 lazy 7");
        T.hall(PAIR + ";porter a draws 1 lot");
        T.fine("-2", T.x.porter(0, 2), -2);
    }

    private static void boxOf() {
        T.of("28: refused by 1");
        T.refused("no hall", T.x.boxOf(0, false), 1);
        T.hall("hall boxes 5 letters 2;box 4 room 1 weight 3" + A);
        for (int b : new int[] {-1, 5, Bounds.BIG, Bounds.SMALL}) {
            T.refused("room of " + b, T.x.boxOf(b, false), 1);
            T.refused("weight of " + b, T.x.boxOf(b, true), 1);
        }
        T.fine("room, not told", T.x.boxOf(0, false), 8);
        T.fine("weight, not told", T.x.boxOf(0, true), 1);
        T.fine("room", T.x.boxOf(4, false), 1);
        T.fine("weight", T.x.boxOf(4, true), 3);
    }

    private static void led() {
        T.of("29: none such: no hall");
        T.led(0, Bounds.NOTHING_LED);
        T.of("29: the i-th box that is empty, from 0 on", "hall boxes 5 letters 8" + A);
        for (int i = 0; i < 5; i++) {
            T.led(i, i);
        }
        for (int i : new int[] {-1, 5, Bounds.BIG, Bounds.SMALL}) {
            T.led(i, Bounds.NOTHING_LED);
        }
        T.place(0, 2);
        T.led(0, 1);
        T.led(1, 3);
        T.led(2, 4);
        T.led(3, Bounds.NOTHING_LED);
        T.place(4, 1, 3);
        T.led(0, Bounds.NOTHING_LED);
        T.led(-1, Bounds.NOTHING_LED);
        T.of("29: empty now: a box that gave its letter", "hall boxes 1 letters 1" + A);
        T.place(0);
        T.led(0, Bounds.NOTHING_LED);
        T.fine("day", T.x.day(0, 0));
        T.led(0, 0);
        T.of("29: no number is told of it, so trouble stays", "hall boxes 1 letters 1" + A);
        T.refused("box", T.x.box(1), 1);
        T.led(0, 0);
        T.led(1, Bounds.NOTHING_LED);
        T.due("trouble", T.x.trouble(), 1);
    }

    private static void size() {
        T.of("30: 0 for what there isn't");
        for (int what = 0; what <= 9; what++) {
            T.due("size(" + what + ")", T.x.size(what), 0);
        }
        T.of("30: NONE for others", PAIR + A);
        for (int what : new int[] {-1, 10, 11, Bounds.BIG, Bounds.SMALL}) {
            T.due("size(" + what + ")", T.x.size(what), -1);
        }
        T.of("30: each", "hall boxes 3 letters 7;box 0 room 1 weight 1;box 1 room 1 weight 1;box 2 room 2 weight 1" + A + ";porter b draws 1 lot;lay 1,1,1;lay 1,1,2");
        T.fine("day", T.x.day(1, 65536));
        T.fine("put", T.x.put(6), 6);
        T.fine("mark", T.x.mark(), 0);
        Tape.feed(T.x, "hall");
        int[] want = {3, 7, 2, 2, 1, 6, 2, 65536, 1, 20};
        for (int what = 0; what <= 9; what++) {
            T.due("size(" + what + ")", T.x.size(what), want[what]);
        }
        T.of("30: no number is told of it, so trouble stays");
        T.refused("box", T.x.box(0), 1);
        T.due("size", T.x.size(10), -1);
        T.due("size", T.x.size(0), 0);
        T.due("trouble", T.x.trouble(), 1);
    }

    private static void trouble() {
        T.of("31: 0 of a new object");
        T.due("trouble", T.x.trouble(), 0);
        T.of("31: each number", "hall boxes 5 letters 8;porter a draws 3 lot;porter b draws 1 beside");
        T.refused("1", T.x.box(5), 1);
        T.refused("2", T.x.states(0, 9), 2);
        T.refused("3", T.x.states(0, 8), 3);
        T.fault("^", 1);
        T.due("4", T.x.trouble(), 4);
        T.fine("day", T.x.day(1, 0));
        T.place(0);
        T.refused("5", T.x.place(0), 5);
        T.refused("6", T.x.likely(), 6);
        T.of("31: the latest call: 0 behind one that wasn't refused", "hall boxes 2 letters 2;porter a draws 1 recalls;lay 1,1");
        for (int call = 0; call < 24; call++) {
            T.refused("box", T.x.box(9), 1);
            long got = call(call);
            T.due("call " + call + " is fine", got >= 0 || got == -2, true);
            T.due("trouble behind call " + call, T.x.trouble(), 0);
        }
    }

    private static long call(int which) {
        switch (which) {
            case 0:
                return T.x.fullest(0, 0, 0, true);
            case 1:
                return T.x.empty(0, 0, 0, true);
            case 2:
                return T.x.holds(0, 0, 0, 0, true);
            case 3:
                return T.x.mean(0, 0, 0, true);
            case 4:
                return T.x.states(0, 0);
            case 5:
                return T.x.worst(0, 0, true);
            case 6:
                return T.x.lies(0, 0, true);
            case 7:
                return T.x.compare(0, 0, 0, 0);
            case 8:
                return T.x.never(0, 1);
            case 9:
                return T.x.best(1, 0, 0);
            case 10:
                return T.x.bestChance(1, 0, 0, true);
            case 11:
                return T.x.likely();
            case 12:
                return T.x.cannot(0);
            case 13:
                return T.x.day(0, 0) ? 1 : -1;
            case 14:
                return T.x.put(1);
            case 15:
                return T.x.goes(0, true);
            case 16:
                return T.x.day(0, 0) ? T.x.place(1) : -1;
            case 17:
                return T.x.box(0);
            case 18:
                return T.x.recall();
            case 19:
                return T.x.mark();
            case 20:
                return T.x.back(0) ? 1 : -1;
            case 21:
                return T.x.porter(0, 2);
            case 22:
                return T.x.boxOf(0, true);
            default:
                return Tape.hall(T.x, PAIR + A);
        }
    }

    private static void troubleLeft() {
        T.of("31: calls that are never refused leave it");
        T.refused("mark", T.x.mark(), 1);
        T.due("feed", T.x.feed(0, 0, 0, 0, 0), 20);
        T.due("size", T.x.size(9), 20);
        T.due("fault", T.x.fault(), 0);
        T.due("where", T.x.where(), -1);
        T.led(0, Bounds.NOTHING_LED);
        T.due("trouble", T.x.trouble(), 1);
        T.due("trouble", T.x.trouble(), 1);
    }

    private static void refusedChangesNothing() {
        T.of("a refused call changes nothing", "hall boxes 3 letters 8;porter a draws 3 lot;porter b draws 1 recalls;lay 1,1,1");
        T.fine("day", T.x.day(1, 9));
        T.place(2);
        T.fine("mark", T.x.mark(), 0);
        T.refused("day", T.x.day(2, 0), 1);
        T.refused("day", T.x.day(0, 65537), 2);
        T.refused("put", T.x.put(9), 2);
        T.refused("place", T.x.place(3), 1);
        T.refused("back", T.x.back(1), 1);
        T.refused("hall", T.x.hall(1), 2);
        int[] want = {3, 8, 2, 1, 1, 1, 0, 9, 1, 0};
        for (int what = 0; what <= 9; what++) {
            T.due("size(" + what + ")", T.x.size(what), want[what]);
        }
        T.boxes(0, 0, 1);
        T.due("recall", T.x.recall(), 2);
    }

    private static void manyCalls() {
        T.of("512 calls", "hall boxes 5 letters 8;porter a draws 3 recalls;door 1 every 3;moves every 2");
        for (int i = 0; i < 100; i++) {
            T.fine("day", T.x.day(0, i));
            T.fine("put", T.x.put(8), 8);
        }
        T.chance("as ever", w -> T.x.holds(0, 0, 0, 0, w), 1, 1);
    }
}
