import java.util.NoSuchElementException;

/** The emptier of two: boxes on a wall, and porters who put letters into them. The promises are those of DOC.md. */
public final class EmptierOfTwo {
    public static final int NONE = -1;

    private static final int NOTHING = -2;

    private static final int MOST_BYTES = 900;
    private static final int MOST_BOXES = 5;
    private static final int MOST_LETTERS = 8;
    private static final int MOST_ROOM = 8;
    private static final int MOST_WEIGHT = 3;
    private static final int MOST_PORTERS = 6;
    private static final int MOST_GLANCES = 3;
    private static final int MOST_EVERY = 9;
    private static final int MOST_LAYS = 8;
    private static final int MOST_MARKS = 3;
    private static final int MOST_FULLEST = 9;
    private static final int SEEDS = 65537;
    private static final long MOST_WAYS = 1000000000000000L;

    // what is remembered takes a slot: 0 nothing, a box's slot is its number and one
    private static final int SLOTS = MOST_BOXES + 1;
    private static final int MASKS = 1 << MOST_BOXES;

    // TROUBLE
    private static final int FINE = 0;
    private static final int NO_SUCH = 1;
    private static final int NUMBER = 2;
    private static final int NO_ROOM = 3;
    private static final int FAULTY = 4;
    private static final int NOT_SO = 5;
    private static final int NO_MORE = 6;

    // FAULTS
    private static final int FORM = 1;
    private static final int TWICE = 3;
    private static final int BOUNDS = 4;
    private static final int MANY = 5;
    private static final int LACKS = 6;

    // RULES
    private static final int LOT = 0;
    private static final int LEFT = 1;
    private static final int LAZY = 2;
    private static final int BESIDE = 3;
    private static final int RECALLS = 4;

    // what a CHANCE or a mean is asked of
    private static final int MEAN_FULLEST = 0;
    private static final int MEAN_EMPTY = 1;
    private static final int MEAN_RETURNED = 2;
    private static final int MEAN_SQUARES = 3;
    private static final int AT_LEAST = 4;
    private static final int JUST_EMPTY = 5;
    private static final int JUST_HOLDS = 6;
    private static final int JUST_LIES = 7;

    // rows of chances: one for each PORTER, then those of BEST, then those of NEVER
    private static final int BEST_ROWS = MOST_PORTERS;
    private static final int NEVER_ROWS = BEST_ROWS + MOST_GLANCES * (MOST_LETTERS + 1);
    private static final int ROWS = NEVER_ROWS + MOST_GLANCES;

    // at (b * 10 + s): how many ways b + 1 boxes may hold fewer than s letters together
    private static final int[] FEWER = {
        0, 1, 2, 3, 4, 5, 6, 7, 8, 9,
        0, 1, 3, 6, 10, 15, 21, 28, 36, 45,
        0, 1, 4, 10, 20, 35, 56, 84, 120, 165,
        0, 1, 5, 15, 35, 70, 126, 210, 330, 495,
        0, 1, 6, 21, 56, 126, 252, 462, 792, 1287
    };
    private static final int MOST_LIES = 1287;

    private final Text text;
    private final Reader reader;
    private final Chances chances;
    private final Choice choice;
    private final Porter trial;
    private final Product product;
    private final Product greatest;
    private final Day day;
    private final Day[] marks;
    private Hall hall;
    private Hall draft;
    private int markCount;
    private int trouble;

    public EmptierOfTwo() {
        text = new Text();
        reader = new Reader(text);
        hall = new Hall();
        draft = new Hall();
        choice = new Choice(hall);
        chances = new Chances(hall, choice);
        trial = new Porter();
        product = new Product();
        greatest = new Product();
        day = new Day();
        marks = new Day[MOST_MARKS];
        for (int i = 0; i < MOST_MARKS; i++) {
            marks[i] = new Day();
        }
        markCount = 0;
        trouble = FINE;
    }

    // ---- the hall

    public int feed(int a, int b, int c, int d, int e) {
        if (text.fed + 20 > MOST_BYTES) {
            return NONE;
        }
        text.add(a);
        text.add(b);
        text.add(c);
        text.add(d);
        text.add(e);
        return text.fed;
    }

    public int hall(int n) {
        if (n < 0 || n > text.fed) {
            return refuse(NUMBER);
        }
        boolean good = reader.reads(draft, n);
        text.fed = 0;
        if (!good) {
            return refuse(FAULTY);
        }
        Hall old = hall;
        hall = draft;
        draft = old;
        chances.begin(hall);
        day.begin(0, 0);
        markCount = 0;
        return fine(hall.porters);
    }

    public int fault() {
        return reader.fault;
    }

    public int where() {
        return trouble == FAULTY ? reader.spot : NONE;
    }

    // ---- chances

    public long fullest(int porter, int k, int m, boolean lower) {
        if (!isPorter(porter)) {
            return refuse(NO_SUCH);
        }
        if (!isCount(k) || !isFullest(m)) {
            return refuse(NUMBER);
        }
        return chance(porter, k, AT_LEAST, m, 0, lower);
    }

    public long empty(int porter, int k, int e, boolean lower) {
        if (!isPorter(porter)) {
            return refuse(NO_SUCH);
        }
        if (!isCount(k) || e < 0 || e > MOST_BOXES) {
            return refuse(NUMBER);
        }
        return chance(porter, k, JUST_EMPTY, e, 0, lower);
    }

    public long holds(int porter, int k, int box, int c, boolean lower) {
        if (!isPorter(porter) || !isBox(box)) {
            return refuse(NO_SUCH);
        }
        if (!isCount(k) || c < 0 || c > MOST_LETTERS) {
            return refuse(NUMBER);
        }
        return chance(porter, k, JUST_HOLDS, box, c, lower);
    }

    public long mean(int porter, int k, int what, boolean lower) {
        if (!isPorter(porter) || what < MEAN_FULLEST || what > MEAN_SQUARES) {
            return refuse(NO_SUCH);
        }
        if (!isCount(k)) {
            return refuse(NUMBER);
        }
        return chance(porter, k, what, k, 0, lower);
    }

    public int states(int porter, int k) {
        if (isRefused(porter, k)) {
            return NONE;
        }
        return fine(chances.waysToLie(ofPorter(porter), k));
    }

    public int worst(int porter, int k, boolean least) {
        if (isRefused(porter, k)) {
            return NONE;
        }
        return fine(chances.furthest(ofPorter(porter), k, least));
    }

    public long lies(int porter, int lay, boolean lower) {
        if (!isPorter(porter) || lay < 0 || lay >= hall.lays) {
            return refuse(NO_SUCH);
        }
        return chance(porter, hall.letters, JUST_LIES, pack(hall.lay[lay]), 0, lower);
    }

    // ---- porters side by side

    public int compare(int porter, int other, int k, int m) {
        if (!isPorter(porter) || !isPorter(other)) {
            return refuse(NO_SUCH);
        }
        if (!isCount(k) || !isFullest(m)) {
            return refuse(NUMBER);
        }
        if (isTooMany(porter, k) || isTooMany(other, k)) {
            return refuse(NO_ROOM);
        }
        chances.count(ofPorter(porter), k, AT_LEAST, m, 0);
        long first = chances.upper;
        long firstAll = chances.all;
        chances.count(ofPorter(other), k, AT_LEAST, m, 0);
        // both are powers of the weights together, so the lesser goes into the greater
        first = first * times(firstAll, chances.all);
        long second = chances.upper * times(chances.all, firstAll);
        return fine(first < second ? -2 : first > second ? 2 : 0);
    }

    public int never(int k, int m) {
        if (!hall.told) {
            return refuse(NO_SUCH);
        }
        if (!isCount(k) || m < 1 || m > MOST_FULLEST) {
            return refuse(NUMBER);
        }
        for (int glances = 1; glances <= MOST_GLANCES; glances++) {
            trial.become(glances, LEFT, NOTHING);
            long[] row = chances.rowOf(NEVER_ROWS + glances - 1, trial, true);
            if (chances.furthest(row, k, false) < m) {
                return fine(glances);
            }
        }
        return fine(NOTHING);
    }

    public int best(int glances, int k, int m) {
        if (isBestRefused(glances, k, m)) {
            return NONE;
        }
        return fine(laziest(glances, k, m));
    }

    public long bestChance(int glances, int k, int m, boolean lower) {
        if (isBestRefused(glances, k, m)) {
            return NONE;
        }
        int lazy = laziest(glances, k, m);
        chances.count(ofLazy(glances, lazy), k, AT_LEAST, m, 0);
        return told(chances.upper, chances.all, lower);
    }

    public int likely() {
        if (!hall.told) {
            return refuse(NO_SUCH);
        }
        if (hall.lays == 0) {
            return refuse(NO_MORE);
        }
        for (int p = 0; p < hall.porters; p++) {
            if (isTooMany(p, hall.letters)) {
                return refuse(NO_ROOM);
            }
        }
        return fine(likeliest());
    }

    public int cannot(int porter) {
        if (!isPorter(porter)) {
            return refuse(NO_SUCH);
        }
        if (isTooMany(porter, hall.letters)) {
            return refuse(NO_ROOM);
        }
        long[] row = ofPorter(porter);
        int bits = 0;
        for (int i = 0; i < hall.lays; i++) {
            chances.count(row, hall.letters, JUST_LIES, pack(hall.lay[i]), 0);
            if (chances.upper == 0) {
                bits |= 1 << i;
            }
        }
        return fine(bits);
    }

    // ---- a day

    public boolean day(int porter, int seed) {
        trouble = !isPorter(porter) ? NO_SUCH : seed < 0 || seed >= SEEDS ? NUMBER : FINE;
        if (trouble != FINE) {
            return false;
        }
        day.begin(porter, seed);
        return true;
    }

    public int put(int n) {
        if (!hall.told) {
            return refuse(NO_SUCH);
        }
        if (n < 1 || n > MOST_LETTERS) {
            return refuse(NUMBER);
        }
        if (day.letters >= hall.letters) {
            return refuse(NO_MORE);
        }
        choice.ready(hall, hall.porter[day.porter]);
        int count = Math.min(n, hall.letters - day.letters);
        for (int i = 0; i < count; i++) {
            choice.putByDraws(day);
        }
        return fine(count);
    }

    public long goes(int box, boolean lower) {
        if (isNextRefused(box)) {
            return NONE;
        }
        choice.ready(hall, hall.porter[day.porter]);
        choice.weigh(day.holds, day.slot, day.letters + 1);
        return told(choice.waysTo(day.holds, box), choice.allWays(), lower);
    }

    public int place(int box) {
        if (isNextRefused(box)) {
            return NONE;
        }
        choice.ready(hall, hall.porter[day.porter]);
        choice.weigh(day.holds, day.slot, day.letters + 1);
        int slot = choice.slotBehind(day.holds, box);
        if (slot < 0) {
            return refuse(NOT_SO);
        }
        // a box that a letter can go to has room, so the letter stays in it
        day.land(hall, box, slot);
        return fine(day.holds[box]);
    }

    public int box(int b) {
        return isBox(b) ? fine(day.holds[b]) : refuse(NO_SUCH);
    }

    public int recall() {
        if (!hall.told) {
            return refuse(NO_SUCH);
        }
        return fine(day.slot == 0 ? NOTHING : day.slot - 1);
    }

    public int mark() {
        if (!hall.told) {
            return refuse(NO_SUCH);
        }
        if (markCount >= MOST_MARKS) {
            return refuse(NO_ROOM);
        }
        marks[markCount].become(day);
        markCount++;
        return fine(markCount - 1);
    }

    public boolean back(int mark) {
        trouble = mark < 0 || mark >= markCount ? NO_SUCH : FINE;
        if (trouble != FINE) {
            return false;
        }
        day.become(marks[mark]);
        return true;
    }

    // ---- what is seen

    public int porter(int p, int what) {
        if (!isPorter(p) || what < 0 || what > 2) {
            return refuse(NO_SUCH);
        }
        Porter of = hall.porter[p];
        return fine(what == 0 ? of.glances : what == 1 ? of.rule : of.lazy);
    }

    public int boxOf(int b, boolean weight) {
        if (!isBox(b)) {
            return refuse(NO_SUCH);
        }
        return fine(weight ? hall.weight[b] : hall.room[b]);
    }

    public int led(int i) throws NoSuchElementException {
        int before = 0;
        for (int b = 0; b < hall.boxes; b++) {
            if (day.holds[b] == 0) {
                if (before == i) {
                    return b;
                }
                before++;
            }
        }
        throw new NoSuchElementException();
    }

    public int size(int what) {
        switch (what) {
            case 0:
                return hall.boxes;
            case 1:
                return hall.letters;
            case 2:
                return hall.porters;
            case 3:
                return hall.lays;
            case 4:
                return day.porter;
            case 5:
                return day.letters;
            case 6:
                return day.returned;
            case 7:
                return day.seed;
            case 8:
                return markCount;
            case 9:
                return text.fed;
            default:
                return NONE;
        }
    }

    public int trouble() {
        return trouble;
    }

    // ---- what the calls share

    private int refuse(int number) {
        trouble = number;
        return NONE;
    }

    private int fine(int answer) {
        trouble = FINE;
        return answer;
    }

    private boolean isPorter(int p) {
        return p >= 0 && p < hall.porters;
    }

    private boolean isBox(int b) {
        return b >= 0 && b < hall.boxes;
    }

    private boolean isCount(int k) {
        return k >= 0 && k <= hall.letters;
    }

    private static boolean isFullest(int m) {
        return m >= 0 && m <= MOST_FULLEST;
    }

    private boolean isTooMany(int porter, int k) {
        return hall.tooMany(hall.porter[porter], k);
    }

    private boolean isRefused(int porter, int k) {
        trouble = !isPorter(porter) ? NO_SUCH : !isCount(k) ? NUMBER : isTooMany(porter, k) ? NO_ROOM : FINE;
        return trouble != FINE;
    }

    private boolean isBestRefused(int glances, int k, int m) {
        boolean numbers = glances >= 1 && glances <= MOST_GLANCES && isCount(k) && isFullest(m);
        trial.become(glances, LAZY, 0);
        trouble = !hall.told ? NO_SUCH : !numbers ? NUMBER : hall.tooMany(trial, k) ? NO_ROOM : FINE;
        return trouble != FINE;
    }

    private boolean isNextRefused(int box) {
        trouble = !isBox(box) ? NO_SUCH : day.letters >= hall.letters ? NO_MORE : FINE;
        return trouble != FINE;
    }

    private long[] ofPorter(int p) {
        return chances.rowOf(p, hall.porter[p], false);
    }

    private long[] ofLazy(int glances, int lazy) {
        trial.become(glances, LAZY, lazy);
        return chances.rowOf(BEST_ROWS + (glances - 1) * (MOST_LETTERS + 1) + lazy, trial, false);
    }

    private long chance(int porter, int k, int asked, int x, int y, boolean lower) {
        if (isTooMany(porter, k)) {
            return refuse(NO_ROOM);
        }
        chances.count(chances.rowOf(porter, hall.porter[porter], false), k, asked, x, y);
        return told(chances.upper, chances.all, lower);
    }

    private long told(long upper, long all, boolean lower) {
        trouble = FINE;
        long part = lower ? all : upper;
        long common = common(upper, all);
        return common > 1 ? part / common : part;
    }

    private static long common(long a, long b) {
        long x = a;
        long y = b;
        // numbers of 63 bits are through in fewer than a hundred steps
        for (int i = 0; i < 200 && y > 0; i++) {
            long rest = x % y;
            x = y;
            y = rest;
        }
        return x;
    }

    private static long times(long small, long great) {
        return small > 0 && great > small ? great / small : 1;
    }

    private int laziest(int glances, int k, int m) {
        int first = 0;
        long least = 0;
        for (int lazy = 0; lazy <= MOST_LETTERS; lazy++) {
            chances.count(ofLazy(glances, lazy), k, AT_LEAST, m, 0);
            // all of them have the same lower WHOLE ahead of lowest terms
            if (lazy == 0 || chances.upper < least) {
                least = chances.upper;
                first = lazy;
            }
        }
        return first;
    }

    private int likeliest() {
        long widest = 0;
        for (int p = 0; p < hall.porters; p++) {
            chances.count(ofPorter(p), hall.letters, JUST_LIES, 0, 0);
            widest = Math.max(widest, chances.all);
        }
        int first = NOTHING;
        greatest.become(0);
        for (int p = 0; p < hall.porters; p++) {
            product.become(1);
            long[] row = ofPorter(p);
            for (int i = 0; i < hall.lays; i++) {
                chances.count(row, hall.letters, JUST_LIES, pack(hall.lay[i]), 0);
                product.multiply(chances.upper * times(chances.all, widest));
            }
            if (product.isAbove(greatest)) {
                greatest.copy(product);
                first = p;
            }
        }
        return first;
    }

    /** How boxes lie, as one number: four bits a box. */
    private static int pack(int[] held) {
        int packed = 0;
        for (int b = 0; b < MOST_BOXES && b < held.length; b++) {
            packed |= held[b] << (4 * b);
        }
        return packed;
    }

    /** THE TAPE and the TOKEN on it that is looked at. */
    private static final class Text {
        static final int END = 0;
        static final int WORD = 1;
        static final int WHOLE = 2;
        static final int SEMICOLON = 3;
        static final int COMMA = 4;
        static final int STRANGE = 5;

        private final int[] tape;
        private int end;
        private int next;
        int fed;
        int at;
        int kind;
        int value;
        long name;

        Text() {
            tape = new int[MOST_BYTES];
        }

        void add(int four) {
            for (int shift = 24; shift >= 0; shift -= 8) {
                if (fed < MOST_BYTES) {
                    tape[fed] = (four >> shift) & 255;
                    fed++;
                }
            }
        }

        void begin(int n) {
            end = Math.min(n, MOST_BYTES);
            next = 0;
            advance();
        }

        void advance() {
            int i = next;
            while (i < end && tape[i] == ' ') {
                i++;
            }
            at = i;
            if (i >= end) {
                kind = END;
            } else if (isLetter(tape[i])) {
                word();
            } else if (isDigit(tape[i])) {
                whole();
            } else {
                kind = tape[i] == ';' ? SEMICOLON : tape[i] == ',' ? COMMA : STRANGE;
                next = i + 1;
            }
        }

        private void word() {
            int i = at;
            name = 0;
            while (i < end && isLetter(tape[i])) {
                name = name * 27 + tape[i] - 'a' + 1;
                i++;
            }
            kind = i - at > 8 ? STRANGE : WORD;
            next = i;
        }

        private void whole() {
            int i = at;
            value = 0;
            while (i < end && isDigit(tape[i])) {
                value = value * 10 + tape[i] - '0';
                i++;
            }
            kind = i - at > 3 ? STRANGE : WHOLE;
            next = i;
        }

        private static boolean isLetter(int c) {
            return c >= 'a' && c <= 'z';
        }

        private static boolean isDigit(int c) {
            return c >= '0' && c <= '9';
        }

        boolean says(String word) {
            if (kind != WORD || next - at != word.length()) {
                return false;
            }
            for (int i = 0; i < word.length(); i++) {
                if (tape[at + i] != word.charAt(i)) {
                    return false;
                }
            }
            return true;
        }
    }

    /** Reads a HALL from a text, up to the first FAULT. */
    private static final class Reader {
        private final Text text;
        private Hall into;
        private int number;
        int fault;
        int spot;

        Reader(Text text) {
            this.text = text;
            into = new Hall();
        }

        boolean reads(Hall draft, int n) {
            into = draft;
            into.clear();
            fault = 0;
            spot = NONE;
            text.begin(n);
            // each LINE has a byte at least
            for (int i = 0; i <= MOST_BYTES; i++) {
                if (!line()) {
                    return false;
                }
                if (text.kind == Text.END) {
                    return ends();
                }
                if (text.kind != Text.SEMICOLON) {
                    return wrong(FORM);
                }
                text.advance();
            }
            return wrong(FORM);
        }

        private boolean ends() {
            if (!into.told || into.porters == 0) {
                return wrong(LACKS);
            }
            into.sumUp();
            return true;
        }

        private boolean wrong(int number) {
            fault = number;
            spot = text.at;
            return false;
        }

        private boolean line() {
            if (text.says("hall")) {
                return hallLine();
            }
            if (text.says("box")) {
                return boxLine();
            }
            if (text.says("porter")) {
                return porterLine();
            }
            if (text.says("door")) {
                return doorLine();
            }
            if (text.says("moves")) {
                return movesLine();
            }
            return text.says("lay") ? layLine() : wrong(FORM);
        }

        private boolean word(String due) {
            if (!text.says(due)) {
                return wrong(FORM);
            }
            text.advance();
            return true;
        }

        private boolean isWhole(int from, int to) {
            if (text.kind != Text.WHOLE) {
                return wrong(FORM);
            }
            number = text.value;
            return (number >= from && number <= to) || wrong(BOUNDS);
        }

        private boolean whole(int from, int to) {
            if (!isWhole(from, to)) {
                return false;
            }
            text.advance();
            return true;
        }

        private boolean hallLine() {
            if (into.told) {
                return wrong(TWICE);
            }
            text.advance();
            if (!word("boxes") || !whole(1, MOST_BOXES)) {
                return false;
            }
            into.boxes = number;
            if (!word("letters") || !whole(0, MOST_LETTERS)) {
                return false;
            }
            into.letters = number;
            into.told = true;
            return true;
        }

        private boolean boxLine() {
            if (!into.told) {
                return wrong(LACKS);
            }
            text.advance();
            if (!isWhole(0, into.boxes - 1)) {
                return false;
            }
            int b = number;
            if (into.boxTold[b]) {
                return wrong(TWICE);
            }
            into.boxTold[b] = true;
            text.advance();
            if (!word("room") || !whole(1, MOST_ROOM)) {
                return false;
            }
            into.room[b] = number;
            if (!word("weight") || !whole(1, MOST_WEIGHT)) {
                return false;
            }
            into.weight[b] = number;
            return true;
        }

        private boolean porterLine() {
            int p = into.porters;
            if (p >= MOST_PORTERS) {
                return wrong(MANY);
            }
            text.advance();
            if (!isName()) {
                return wrong(FORM);
            }
            if (into.hasName(text.name)) {
                return wrong(TWICE);
            }
            into.name[p] = text.name;
            text.advance();
            if (!word("draws") || !whole(1, MOST_GLANCES)) {
                return false;
            }
            int glances = number;
            int rule = rule();
            if (rule < 0) {
                return wrong(FORM);
            }
            text.advance();
            if (rule == LAZY && !whole(0, MOST_LETTERS)) {
                return false;
            }
            into.porter[p].become(glances, rule, rule == LAZY ? number : NOTHING);
            into.porters++;
            return true;
        }

        private boolean isName() {
            boolean taken = text.says("hall") || text.says("box") || text.says("porter");
            taken = taken || text.says("door") || text.says("moves") || text.says("lay");
            return text.kind == Text.WORD && !taken;
        }

        private int rule() {
            if (text.says("lot")) {
                return LOT;
            }
            if (text.says("left")) {
                return LEFT;
            }
            if (text.says("lazy")) {
                return LAZY;
            }
            if (text.says("beside")) {
                return BESIDE;
            }
            return text.says("recalls") ? RECALLS : NONE;
        }

        private boolean doorLine() {
            if (into.doorEvery > 0) {
                return wrong(TWICE);
            }
            if (!into.told) {
                return wrong(LACKS);
            }
            text.advance();
            if (!whole(0, into.boxes - 1)) {
                return false;
            }
            into.doorBox = number;
            if (!word("every") || !whole(1, MOST_EVERY)) {
                return false;
            }
            into.doorEvery = number;
            return true;
        }

        private boolean movesLine() {
            if (into.movesEvery > 0) {
                return wrong(TWICE);
            }
            text.advance();
            if (!word("every") || !whole(1, MOST_EVERY)) {
                return false;
            }
            into.movesEvery = number;
            return true;
        }

        private boolean layLine() {
            if (into.lays >= MOST_LAYS) {
                return wrong(MANY);
            }
            if (!into.told) {
                return wrong(LACKS);
            }
            text.advance();
            int[] lay = into.lay[into.lays];
            for (int b = 0; b < into.boxes; b++) {
                if (b > 0) {
                    if (text.kind != Text.COMMA) {
                        return wrong(FORM);
                    }
                    text.advance();
                }
                if (!whole(0, MOST_LETTERS)) {
                    return false;
                }
                lay[b] = number;
            }
            into.lays++;
            return true;
        }
    }

    /** How a PORTER takes boxes. */
    private static final class Porter {
        int glances;
        int rule;
        int lazy;

        void become(int glances, int rule, int lazy) {
            this.glances = glances;
            this.rule = rule;
            this.lazy = lazy;
        }
    }

    /** A HALL as it was told. */
    private static final class Hall {
        boolean told;
        int boxes;
        int letters;
        int allRoom;
        int allWeight;
        int doorBox;
        int doorEvery;
        int movesEvery;
        int porters;
        int lays;
        final int[] room;
        final int[] weight;
        final boolean[] boxTold;
        final Porter[] porter;
        final long[] name;
        final int[][] lay;

        Hall() {
            room = new int[MOST_BOXES];
            weight = new int[MOST_BOXES];
            boxTold = new boolean[MOST_BOXES];
            porter = new Porter[MOST_PORTERS];
            for (int p = 0; p < MOST_PORTERS; p++) {
                porter[p] = new Porter();
            }
            name = new long[MOST_PORTERS];
            lay = new int[MOST_LAYS][MOST_BOXES];
        }

        void clear() {
            told = false;
            boxes = 0;
            letters = 0;
            doorBox = 0;
            doorEvery = 0;
            movesEvery = 0;
            porters = 0;
            lays = 0;
            for (int b = 0; b < MOST_BOXES; b++) {
                room[b] = MOST_ROOM;
                weight[b] = 1;
                boxTold[b] = false;
            }
            for (int i = 0; i < MOST_LAYS; i++) {
                for (int b = 0; b < MOST_BOXES; b++) {
                    lay[i][b] = 0;
                }
            }
        }

        void sumUp() {
            allRoom = 0;
            allWeight = 0;
            for (int b = 0; b < boxes; b++) {
                allRoom += room[b];
                allWeight += weight[b];
            }
        }

        boolean hasName(long asked) {
            for (int p = 0; p < porters; p++) {
                if (name[p] == asked) {
                    return true;
                }
            }
            return false;
        }

        boolean isDoors(int letter) {
            return doorEvery > 0 && letter % doorEvery == 0;
        }

        /** The box that has a LETTER for which this one is taken; NONE if it is RETURNED. */
        int roomFrom(int[] held, int taken) {
            int b = taken;
            for (int i = 0; i < boxes && b >= 0 && b < boxes; i++) {
                if (held[b] < room[b]) {
                    return b;
                }
                b = b + 1 < boxes ? b + 1 : 0;
            }
            return NONE;
        }

        /** What is moved behind a LETTER. */
        void move(int[] held, int letter) {
            if (movesEvery <= 0 || letter % movesEvery != 0) {
                return;
            }
            int from = 0;
            int to = 0;
            for (int b = 1; b < boxes; b++) {
                from = held[b] > held[from] ? b : from;
                to = held[b] < held[to] ? b : to;
            }
            if (held[from] - held[to] >= 2 && held[to] < room[to]) {
                held[from]--;
                held[to]++;
            }
        }

        /** Whether the WAYS behind k LETTERS are above what is counted. */
        boolean tooMany(Porter by, int k) {
            long each = 1;
            for (int i = 0; i < by.glances; i++) {
                each *= allWeight;
            }
            if (by.rule == LOT) {
                each *= by.glances == 3 ? 6 : by.glances;
            }
            long most = each > 0 ? MOST_WAYS / each : 0;
            long ways = 1;
            for (int letter = 1; letter <= k; letter++) {
                if (!isDoors(letter)) {
                    if (ways > most) {
                        return true;
                    }
                    ways *= each;
                }
            }
            return false;
        }
    }

    /** A DAY: how far it is, and what it has left behind. */
    private static final class Day {
        int porter;
        int seed;
        int letters;
        int returned;
        int slot;
        final int[] holds;

        Day() {
            holds = new int[MOST_BOXES];
        }

        void begin(int by, int from) {
            porter = by;
            seed = from;
            letters = 0;
            returned = 0;
            slot = 0;
            for (int b = 0; b < MOST_BOXES; b++) {
                holds[b] = 0;
            }
        }

        void become(Day other) {
            porter = other.porter;
            seed = other.seed;
            letters = other.letters;
            returned = other.returned;
            slot = other.slot;
            for (int b = 0; b < MOST_BOXES; b++) {
                holds[b] = other.holds[b];
            }
        }

        int draw() {
            seed = (75 * seed + 74) % SEEDS;
            return seed;
        }

        /** The next LETTER, for which a box is taken, is put, and what is remembered then. */
        void land(Hall hall, int taken, int slotThen) {
            int to = hall.roomFrom(holds, taken);
            if (to < 0) {
                returned++;
            } else {
                holds[to]++;
            }
            letters++;
            slot = slotThen;
            hall.move(holds, letters);
        }
    }

    /** Which box a PORTER takes for a LETTER. */
    private static final class Choice {
        private final long[] seen; // by boxes, as bits: the ways in which just these are seen
        private final int[] drawn;
        final long[] ways; // by the box taken, and by the slot of what is remembered then
        private Hall hall;
        private Porter porter;

        Choice(Hall hall) {
            this.hall = hall;
            porter = new Porter();
            seen = new long[MASKS];
            drawn = new int[MOST_GLANCES];
            ways = new long[MOST_BOXES * SLOTS];
        }

        void ready(Hall inHall, Porter by) {
            hall = inHall;
            porter = by;
            int masks = 1 << hall.boxes;
            for (int mask = 1; mask < MASKS; mask++) {
                seen[mask] = 0;
            }
            seen[0] = 1;
            for (int i = 0; i < porter.glances; i++) {
                // from the greatest on, so that the ways of fewer boxes are still those of a GLANCE less
                for (int mask = masks - 1; mask >= 0; mask--) {
                    seen[mask] = waysOfOneMore(mask);
                }
            }
        }

        private long waysOfOneMore(int mask) {
            long sum = 0;
            for (int b = 0; b < hall.boxes; b++) {
                int bit = 1 << b;
                if ((mask & bit) != 0) {
                    sum += (seen[mask] + seen[mask ^ bit]) * hall.weight[b];
                }
            }
            return sum;
        }

        /** Sets the ways for a LETTER, if so many are held and a slot is remembered. */
        void weigh(int[] held, int slot, int letter) {
            for (int i = 0; i < MOST_BOXES * SLOTS; i++) {
                ways[i] = 0;
            }
            if (hall.isDoors(letter)) {
                ways[hall.doorBox * SLOTS + slot] = 1;
            } else if (porter.rule == LOT) {
                weighLots(held);
            } else if (porter.rule == LAZY) {
                weighLazy(held);
            } else {
                weighSeen(held, slot);
            }
        }

        private void weighLots(int[] held) {
            for (int b = 0; b < hall.boxes; b++) {
                long fuller = 0;
                long noEmptier = 0;
                for (int c = 0; c < hall.boxes; c++) {
                    fuller += held[c] > held[b] ? hall.weight[c] : 0;
                    noEmptier += held[c] >= held[b] ? hall.weight[c] : 0;
                }
                // of the boxes alike each has its weight's part of the ways in which one of them is the emptiest
                ways[b * SLOTS] = hall.weight[b] * mixed(noEmptier, fuller, porter.glances);
            }
        }

        private void weighLazy(int[] held) {
            long fuller = 0;
            for (int b = 0; b < hall.boxes; b++) {
                fuller += held[b] > porter.lazy ? hall.weight[b] : 0;
            }
            for (int b = 0; b < hall.boxes; b++) {
                // a fuller one is taken as the last GLANCE alone, behind nothing but fuller ones
                long first = held[b] > porter.lazy ? 0 : hall.allWeight;
                ways[b * SLOTS] = hall.weight[b] * mixed(first, fuller, porter.glances);
            }
        }

        private void weighSeen(int[] held, int slot) {
            int masks = 1 << hall.boxes;
            for (int mask = 1; mask < masks; mask++) {
                if (seen[mask] > 0) {
                    int looked = lookedAt(mask, slot);
                    int taken = emptiest(held, looked, NONE);
                    int to = hall.roomFrom(held, taken);
                    int after = porter.rule == RECALLS ? emptiest(held, looked, to) + 1 : 0;
                    if (taken >= 0) {
                        ways[taken * SLOTS + after] += seen[mask];
                    }
                }
            }
        }

        /** All products of (n - 1) factors that are first a's, then b's, together. */
        private static long mixed(long a, long b, int n) {
            long sum = 0;
            long power = 1;
            for (int i = 0; i < n; i++) {
                sum = sum * a + power;
                power *= b;
            }
            return sum;
        }

        /** The boxes among which the emptiest is taken, if these are seen. */
        private int lookedAt(int mask, int slot) {
            if (porter.rule == BESIDE) {
                int next = mask << 1;
                return mask | (next & ((1 << hall.boxes) - 1)) | (next >> hall.boxes);
            }
            return porter.rule == RECALLS && slot > 0 ? mask | 1 << (slot - 1) : mask;
        }

        /** The emptiest of these boxes, of like ones that of the least number, if one box has a LETTER more. */
        private int emptiest(int[] held, int mask, int more) {
            int least = NONE;
            int leastHeld = 0;
            for (int b = 0; b < hall.boxes; b++) {
                if ((mask >> b & 1) != 0) {
                    int now = b == more ? held[b] + 1 : held[b];
                    if (least < 0 || now < leastHeld) {
                        least = b;
                        leastHeld = now;
                    }
                }
            }
            return least;
        }

        long allWays() {
            long sum = 0;
            for (int i = 0; i < MOST_BOXES * SLOTS; i++) {
                sum += ways[i];
            }
            return sum;
        }

        long waysTo(int[] held, int box) {
            long sum = 0;
            for (int taken = 0; taken < hall.boxes; taken++) {
                if (hall.roomFrom(held, taken) == box) {
                    for (int after = 0; after < SLOTS; after++) {
                        sum += ways[taken * SLOTS + after];
                    }
                }
            }
            return sum;
        }

        /** The one slot behind all ways by which the LETTER goes to a box; NONE if there is none, or more. */
        int slotBehind(int[] held, int box) {
            int slot = NONE;
            for (int taken = 0; taken < hall.boxes; taken++) {
                if (hall.roomFrom(held, taken) == box) {
                    for (int after = 0; after < SLOTS; after++) {
                        if (ways[taken * SLOTS + after] > 0) {
                            if (slot >= 0 && slot != after) {
                                return NONE;
                            }
                            slot = after;
                        }
                    }
                }
            }
            return slot;
        }

        /** Puts the next LETTER of a DAY. */
        void putByDraws(Day day) {
            if (hall.isDoors(day.letters + 1)) {
                day.land(hall, hall.doorBox, day.slot);
                return;
            }
            int mask = 0;
            for (int i = 0; i < porter.glances && i < MOST_GLANCES; i++) {
                drawn[i] = glance(day);
                mask |= 1 << drawn[i];
            }
            int looked = lookedAt(mask, day.slot);
            int taken;
            if (porter.rule == LOT) {
                taken = byLot(day);
            } else if (porter.rule == LAZY) {
                taken = firstNotFuller(day.holds);
            } else {
                taken = emptiest(day.holds, looked, NONE);
            }
            int to = hall.roomFrom(day.holds, taken);
            int after = porter.rule == RECALLS ? emptiest(day.holds, looked, to) + 1 : 0;
            day.land(hall, taken, after);
        }

        private int glance(Day day) {
            int left = hall.allWeight > 0 ? day.draw() % hall.allWeight : 0;
            int b = 0;
            while (b < hall.boxes - 1 && left >= hall.weight[b]) {
                left -= hall.weight[b];
                b++;
            }
            return b;
        }

        private int byLot(Day day) {
            int least = MOST_LETTERS + 1;
            int many = 0;
            for (int i = 0; i < porter.glances && i < MOST_GLANCES; i++) {
                int now = day.holds[drawn[i]];
                many = now < least ? 1 : now == least ? many + 1 : many;
                least = Math.min(least, now);
            }
            int skip = many > 1 ? day.draw() % many : 0;
            for (int i = 0; i < porter.glances && i < MOST_GLANCES; i++) {
                if (day.holds[drawn[i]] == least) {
                    if (skip == 0) {
                        return drawn[i];
                    }
                    skip--;
                }
            }
            return NONE;
        }

        private int firstNotFuller(int[] held) {
            int last = NONE;
            for (int i = 0; i < porter.glances && i < MOST_GLANCES; i++) {
                last = drawn[i];
                if (held[last] <= porter.lazy) {
                    return last;
                }
            }
            return last;
        }
    }

    /**
     * In how many ways boxes come to lie somehow. As no LETTER is RETURNED while there is room, all that may lie behind
     * k LETTERS holds as many, or all that there is room for: one row has them all, those of fewer letters first.
     */
    private static final class Chances {
        private final long[][] rows;
        private final boolean[] built;
        private final long[] ways; // by how boxes lie and by the slot of what is remembered
        private final int[] lie; // packed
        private final int[] held;
        private final int[] then;
        private final int[] behind; // by the box taken: how boxes lie then
        private final Choice choice;
        private Hall hall;
        long upper;
        long all;

        Chances(Hall hall, Choice choice) {
            this.hall = hall;
            this.choice = choice;
            rows = new long[ROWS][MOST_LIES];
            built = new boolean[ROWS];
            ways = new long[MOST_LIES * SLOTS];
            lie = new int[MOST_LIES];
            held = new int[MOST_BOXES];
            then = new int[MOST_BOXES];
            behind = new int[MOST_BOXES];
        }

        void begin(Hall inHall) {
            hall = inHall;
            for (int i = 0; i < ROWS; i++) {
                built[i] = false;
            }
            for (int b = 0; b < MOST_BOXES; b++) {
                held[b] = 0;
            }
            int most = letters(hall.letters);
            boolean more = true;
            for (int i = 0; i < MOST_LIES && more; i++) {
                int at = rank(held);
                if (at >= 0) {
                    lie[at] = pack(held);
                }
                more = countOn(most);
            }
        }

        private boolean countOn(int most) {
            int sum = 0;
            for (int b = 0; b < hall.boxes; b++) {
                sum += held[b];
            }
            for (int b = 0; b < hall.boxes; b++) {
                if (sum < most) {
                    held[b]++;
                    return true;
                }
                sum -= held[b];
                held[b] = 0;
            }
            return false;
        }

        /** How many letters the boxes hold together behind k LETTERS. */
        private int letters(int k) {
            return Math.max(0, Math.min(Math.min(k, hall.allRoom), MOST_LETTERS));
        }

        /** The first of those that hold so many letters together. */
        private int first(int letters) {
            return hall.boxes > 0 ? FEWER[(hall.boxes - 1) * 10 + letters] : 0;
        }

        private int rank(int[] of) {
            int sum = 0;
            int rank = 0;
            for (int b = 0; b < hall.boxes; b++) {
                sum += of[b];
                if (sum > MOST_LETTERS) {
                    return NONE;
                }
                rank += FEWER[b * 10 + sum];
            }
            return rank;
        }

        /** The row of a PORTER; or one that tells no more than whether there is a way. */
        long[] rowOf(int which, Porter porter, boolean whether) {
            long[] row = rows[which];
            if (built[which]) {
                return row;
            }
            built[which] = true;
            int top = letters(hall.letters);
            while (top > 0 && !whether && hall.tooMany(porter, top)) {
                top--;
            }
            choice.ready(hall, porter);
            int end = first(top + 1);
            for (int i = 0; i < end * SLOTS; i++) {
                ways[i] = 0;
            }
            ways[0] = 1;
            for (int letter = 1; letter <= top; letter++) {
                for (int i = first(letter - 1); i < first(letter); i++) {
                    goOn(i, letter, whether);
                }
            }
            for (int i = 0; i < MOST_LIES; i++) {
                row[i] = i < end ? sumOfSlots(i) : 0;
            }
            return row;
        }

        private long sumOfSlots(int at) {
            long sum = 0;
            for (int slot = 0; slot < SLOTS; slot++) {
                sum += ways[at * SLOTS + slot];
            }
            return sum;
        }

        /** Puts a LETTER where boxes lie so, in all ways. */
        private void goOn(int at, int letter, boolean whether) {
            if (sumOfSlots(at) == 0) {
                return;
            }
            for (int b = 0; b < hall.boxes; b++) {
                held[b] = lie[at] >> (4 * b) & 15;
            }
            for (int b = 0; b < hall.boxes; b++) {
                behind[b] = lieBehind(b, letter);
            }
            for (int slot = 0; slot < SLOTS; slot++) {
                long now = ways[at * SLOTS + slot];
                if (now > 0) {
                    choice.weigh(held, slot, letter);
                    for (int taken = 0; taken < hall.boxes; taken++) {
                        passOn(taken, now, whether);
                    }
                }
            }
        }

        private void passOn(int taken, long now, boolean whether) {
            if (behind[taken] < 0) {
                return;
            }
            for (int slot = 0; slot < SLOTS; slot++) {
                long more = choice.ways[taken * SLOTS + slot];
                if (more > 0) {
                    int to = behind[taken] * SLOTS + slot;
                    ways[to] = whether ? 1 : ways[to] + now * more;
                }
            }
        }

        private int lieBehind(int taken, int letter) {
            int to = hall.roomFrom(held, taken);
            if (to < 0) {
                return NONE;
            }
            for (int b = 0; b < MOST_BOXES; b++) {
                then[b] = held[b];
            }
            then[to]++;
            hall.move(then, letter);
            return rank(then);
        }

        /** Sets the two WHOLES, upper and all, of what is asked behind k LETTERS. */
        void count(long[] row, int k, int asked, int x, int y) {
            upper = 0;
            all = 0;
            int letters = letters(k);
            for (int i = first(letters); i < first(letters + 1); i++) {
                if (row[i] > 0) {
                    all += row[i];
                    upper += row[i] * worth(asked, lie[i], x, y);
                }
            }
        }

        private int worth(int asked, int packed, int x, int y) {
            switch (asked) {
                case MEAN_FULLEST:
                    return fullestOf(packed);
                case MEAN_EMPTY:
                    return emptyOf(packed);
                case MEAN_RETURNED:
                    return Math.max(0, x - hall.allRoom);
                case MEAN_SQUARES:
                    return squaresOf(packed);
                case AT_LEAST:
                    return fullestOf(packed) >= x ? 1 : 0;
                case JUST_EMPTY:
                    return emptyOf(packed) == x ? 1 : 0;
                case JUST_HOLDS:
                    return (packed >> (4 * x) & 15) == y ? 1 : 0;
                default:
                    return packed == x ? 1 : 0;
            }
        }

        private int fullestOf(int packed) {
            int most = 0;
            for (int b = 0; b < hall.boxes; b++) {
                most = Math.max(most, packed >> (4 * b) & 15);
            }
            return most;
        }

        private int emptyOf(int packed) {
            int many = 0;
            for (int b = 0; b < hall.boxes; b++) {
                many += (packed >> (4 * b) & 15) == 0 ? 1 : 0;
            }
            return many;
        }

        private int squaresOf(int packed) {
            int sum = 0;
            for (int b = 0; b < hall.boxes; b++) {
                int c = packed >> (4 * b) & 15;
                sum += c * c;
            }
            return sum;
        }

        int waysToLie(long[] row, int k) {
            int many = 0;
            int letters = letters(k);
            for (int i = first(letters); i < first(letters + 1); i++) {
                many += row[i] > 0 ? 1 : 0;
            }
            return many;
        }

        /** The greatest FULLEST that may be behind k LETTERS, or the least. */
        int furthest(long[] row, int k, boolean least) {
            int furthest = NONE;
            int letters = letters(k);
            for (int i = first(letters); i < first(letters + 1); i++) {
                if (row[i] > 0) {
                    int now = fullestOf(lie[i]);
                    if (furthest < 0 || (least ? now < furthest : now > furthest)) {
                        furthest = now;
                    }
                }
            }
            return furthest;
        }
    }

    /** A product of up to 8 factors, each below 2 to the 50. */
    private static final class Product {
        private static final int PARTS = 18;
        private static final int BITS = 24;
        private static final long LOW = (1L << BITS) - 1;

        private final long[] part; // of 24 bits each, the lowest first

        Product() {
            part = new long[PARTS];
        }

        void become(long small) {
            for (int i = 0; i < PARTS; i++) {
                part[i] = 0;
            }
            part[0] = small;
        }

        void copy(Product other) {
            for (int i = 0; i < PARTS; i++) {
                part[i] = other.part[i];
            }
        }

        void multiply(long factor) {
            long low = factor & LOW;
            long middle = factor >> BITS & LOW;
            long high = factor >> (2 * BITS);
            for (int i = PARTS - 1; i >= 0; i--) {
                long sum = part[i] * low;
                sum += i >= 1 ? part[i - 1] * middle : 0;
                sum += i >= 2 ? part[i - 2] * high : 0;
                part[i] = sum;
            }
            long carry = 0;
            for (int i = 0; i < PARTS; i++) {
                long sum = part[i] + carry;
                part[i] = sum & LOW;
                carry = sum >> BITS;
            }
        }

        boolean isAbove(Product other) {
            for (int i = PARTS - 1; i >= 0; i--) {
                if (part[i] != other.part[i]) {
                    return part[i] > other.part[i];
                }
            }
            return false;
        }
    }
}
