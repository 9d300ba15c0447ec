import java.util.ArrayList;
import java.util.HashSet;
import java.util.List;
import java.util.Random;
import java.util.Set;

/** Texts, good and spoilt, held against a second reading of the grammar. */
public final class FaultsTest {
    private static int wrong = 0;

    /** A fault of a number at a place. */
    private static final class Fault extends Exception {
        private static final long serialVersionUID = 1L;
        final int number;
        final int place;

        Fault(int number, int place) {
            this.number = number;
            this.place = place;
        }
    }

    private record Token(String sign, int place) {
    }

    /** Reads a text as the document tells it, token by token. */
    private static final class Reading {
        private final List<Token> tokens = new ArrayList<>();
        private int next = 0;
        private int boxes = -1;
        private int porters = 0;
        private int lays = 0;
        private boolean door = false;
        private boolean moves = false;
        private final Set<String> names = new HashSet<>();
        private final Set<Integer> told = new HashSet<>();

        Reading(String text) {
            int i = 0;
            while (i < text.length()) {
                int from = i;
                char c = text.charAt(i);
                i++;
                if (c == ' ') {
                    continue;
                }
                boolean letter = c >= 'a' && c <= 'z';
                boolean digit = c >= '0' && c <= '9';
                while ((letter || digit) && i < text.length() && (letter ? Character.toString(text.charAt(i)).matches("[a-z]") : Character.toString(text.charAt(i)).matches("[0-9]"))) {
                    i++;
                }
                String sign = text.substring(from, i);
                tokens.add(new Token(sign.matches("[a-z]{1,8}|[0-9]{1,3}|[;,]") ? sign : "?", from));
            }
            tokens.add(new Token("", text.length()));
        }

        private Token token() {
            return tokens.get(next);
        }

        private Fault fault(int number) {
            return new Fault(number, token().place);
        }

        private void due(String sign) throws Fault {
            if (!token().sign.equals(sign)) {
                throw fault(1);
            }
            next++;
        }

        private int whole(int from, int to) throws Fault {
            if (!token().sign.matches("[0-9]+")) {
                throw fault(1);
            }
            int value = Integer.parseInt(token().sign);
            if (value < from || value > to) {
                throw fault(4);
            }
            next++;
            return value;
        }

        int read() throws Fault {
            line();
            while (token().sign.equals(";")) {
                next++;
                line();
            }
            if (!token().sign.isEmpty()) {
                throw fault(1);
            }
            if (boxes < 0 || porters == 0) {
                throw fault(6);
            }
            return porters;
        }

        private void needsHall() throws Fault {
            if (boxes < 0) {
                throw fault(6);
            }
        }

        private void once(boolean already) throws Fault {
            if (already) {
                throw fault(3);
            }
        }

        private void line() throws Fault {
            switch (token().sign) {
                case "hall":
                    once(boxes >= 0);
                    next++;
                    due("boxes");
                    int many = whole(1, 5);
                    due("letters");
                    whole(0, 8);
                    boxes = many;
                    break;
                case "box":
                    needsHall();
                    next++;
                    int b = whole(0, boxes - 1);
                    next--;
                    once(!told.add(b));
                    next++;
                    due("room");
                    whole(1, 8);
                    due("weight");
                    whole(1, 3);
                    break;
                case "porter":
                    porter();
                    break;
                case "door":
                    once(door);
                    needsHall();
                    next++;
                    whole(0, boxes - 1);
                    due("every");
                    whole(1, 9);
                    door = true;
                    break;
                case "moves":
                    once(moves);
                    next++;
                    due("every");
                    whole(1, 9);
                    moves = true;
                    break;
                case "lay":
                    needsHall();
                    if (lays == 8) {
                        throw fault(5);
                    }
                    next++;
                    whole(0, 8);
                    for (int i = 1; i < boxes; i++) {
                        due(",");
                        whole(0, 8);
                    }
                    lays++;
                    break;
                default:
                    throw fault(1);
            }
        }

        private void porter() throws Fault {
            if (porters == 6) {
                throw fault(5);
            }
            next++;
            String name = token().sign;
            if (!name.matches("[a-z]+") || name.matches("hall|box|porter|door|moves|lay")) {
                throw fault(1);
            }
            once(!names.add(name));
            next++;
            due("draws");
            whole(1, 3);
            if (!token().sign.matches("lot|left|lazy|beside|recalls")) {
                throw fault(1);
            }
            boolean lazy = token().sign.equals("lazy");
            next++;
            if (lazy) {
                whole(0, 8);
            }
            porters++;
        }
    }

    private static void check(EmptierOfTwo x, String text) {
        int porters = -1;
        int number = 0;
        int place = -1;
        try {
            porters = new Reading(text).read();
        } catch (Fault f) {
            number = f.number;
            place = f.place;
        }
        int got = Tape.hall(x, text);
        int trouble = x.trouble();
        if (got != porters || trouble != (number == 0 ? 0 : 4) || x.fault() != number || x.where() != place || x.size(9) != 0) {
            wrong++;
            System.out.println("\"" + text + "\": " + got + " trouble " + trouble + " fault " + x.fault() + " where " + x.where() + ", due: " + porters + " fault " + number + " where " + place);
        }
    }

    private static final String[] BITS = {"hall", "boxes", "letters", "box", "room", "weight", "porter", "draws", "lot", "left", "lazy", "beside", "recalls",
        "door", "every", "moves", "lay", ";", ",", ";", ",", "0", "1", "2", "3", "4", "5", "6", "8", "9", "10", "007", "1000", "a", "abcdefgh", "abcdefghi", "A", ".", "\u00e9", "\t", "\0"};

    private static String spoilt(String text, Random r) {
        StringBuilder s = new StringBuilder(text);
        int at = r.nextInt(text.length());
        switch (r.nextInt(7)) {
            case 0:
                s.deleteCharAt(at);
                break;
            case 1:
                s.insert(at, ' ');
                break;
            case 2:
                s.insert(at, BITS[r.nextInt(BITS.length)]);
                break;
            case 3:
                s.setCharAt(at, (char) r.nextInt(256));
                break;
            case 4:
                s.setLength(at);
                break;
            case 5: {
                // a line told again, somewhere
                String[] lines = text.split(";");
                s.append(";").append(lines[r.nextInt(lines.length)]);
                break;
            }
            default: {
                String[] lines = text.split(";");
                int i = r.nextInt(lines.length);
                int j = r.nextInt(lines.length);
                String line = lines[i];
                lines[i] = lines[j];
                lines[j] = line;
                s = new StringBuilder(String.join(";", lines));
            }
        }
        return s.length() > 900 ? s.substring(0, 900) : s.toString();
    }

    private static String soup(Random r) {
        StringBuilder s = new StringBuilder(r.nextBoolean() ? "hall boxes 2 letters 3;" : "");
        int many = r.nextInt(12);
        for (int i = 0; i < many; i++) {
            s.append(BITS[r.nextInt(BITS.length)]).append(r.nextInt(4) == 0 ? "" : " ");
        }
        return s.toString();
    }

    private static void edges(EmptierOfTwo x) {
        String h = "hall boxes 2 letters 2;";
        String p = "porter a draws 1 lot";
        String[] texts = {"", " ", ";", h, h + p, h + p + ";", h + p + " ", h + p + "  ;  ", p, p + " ", "  " + h + p,
            "hallboxes 2 letters 2;" + p, "hall boxes2letters2;porter a draws1lot", h + "porter hall draws 1 lot", h + "porter boxes draws 1 lot",
            h + "porter lot draws 1 lot", h + "porter a1 draws 1 lot", h + "porter abcdefgh draws 1 lot", h + "porter abcdefghi draws 1 lot",
            h + "porter a draws 1 lot 3", h + "porter a draws 1 lazy", h + "porter a draws 1 lazy 8", h + "porter a draws 1 lazy 9", h + "porter a draws 0 lot",
            "hall boxes 0 letters 1;" + p, "hall boxes 001 letters 008;" + p, "hall boxes 0001 letters 8;" + p, "hall letters 2 boxes 2;" + p,
            p + ";" + h + "lay 1,1", p + ";moves every 9;" + h + "box 1 room 8 weight 3", "lay 1,1;" + h + p, "door 0 every 1;" + h + p, "moves every 10",
            h + "box 0 room 9 weight 1", h + "box 0 room 1 weight 0", h + "box 0 room 1 weight 4", h + "door 2 every 1", h + "door 3 every 1",
            h + "box 3 room 1 weight 1", h + "box 0 room 8 weight 3;" + p, h + "box 2 room 1 weight 1", h + "box 1 room 1 weight 1;box 0 room 1 weight 1;box 1",
            h + "box 1 room 1 weight 1;box 0 room 1 weight 1;box", h + "door 1 every 9;" + p, h + "door 1 every 0", h + "door 1;door", h + "lay 1,1;lay 1 1",
            h + "lay 0,8;" + p, h + "lay 0;" + p, h + "lay 0,", h + "lay", h + p + ";hall", h + p + ";" + p, h + p + "!", "!" + h, h + p + ";porter b draws 1 lot lot",
            "porter a draws 1 lot;porter a", "box 0 room", "box !", "lay !"};
        for (String text : texts) {
            check(x, text);
        }
        for (int many = 1; many <= 9; many++) {
            StringBuilder s = new StringBuilder("hall boxes 1 letters 1");
            StringBuilder t = new StringBuilder("hall boxes 1 letters 1;" + p);
            for (int i = 0; i < many; i++) {
                s.append(";porter ").append((char) ('b' + i)).append(" draws 1 left");
                t.append(";lay ").append(i % 9);
            }
            check(x, s.toString());
            check(x, t.toString());
            check(x, s + ";porter");
            check(x, t + ";lay");
        }
        StringBuilder full = new StringBuilder(h + p);
        while (full.length() < 900) {
            full.append(' ');
        }
        check(x, full.toString());
    }

    public static void main(String[] args) {
        int texts = args.length > 0 ? Integer.parseInt(args[0]) : 40000;
        EmptierOfTwo x = new EmptierOfTwo();
        edges(x);
        for (int seed = 0; seed < texts && wrong < 20; seed++) {
            Random r = new Random(seed);
            String text = Model.random(r).text(r);
            check(x, text);
            String worse = spoilt(text, r);
            check(x, worse);
            if (!worse.isEmpty() && r.nextBoolean()) {
                check(x, spoilt(worse, r));
            }
            check(x, soup(r));
        }
        System.out.println(wrong == 0 ? "FaultsTest: all as due" : "FaultsTest: " + wrong + " wrong");
        if (wrong != 0) {
            System.exit(1);
        }
    }
}
