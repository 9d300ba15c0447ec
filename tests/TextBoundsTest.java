/** The sentences on the tape and on the text of a hall (Terms, I; promises 1 to 5) that name a boundary case, each by itself. */
public final class TextBoundsTest {
    private static final Bounds T = new Bounds("TextBoundsTest");
    private static final String H = "hall boxes 2 letters 2";
    private static final String P = "porter a draws 1 lot";

    public static void main(String[] args) {
        tape();
        blanks();
        words();
        wholes();
        signs();
        hallLine();
        boxLine();
        porterLine();
        rules();
        doorAndMoves();
        lays();
        names();
        form();
        twice();
        bounds();
        many();
        lacks();
        firstFault();
        newObject();
        feeds();
        halls();
        hallStays();
        hallsDay();
        faultAndWhere();
        T.end();
    }

    private static String padded(String ahead, String behind, int length) {
        StringBuilder s = new StringBuilder(ahead);
        while (s.length() + behind.length() < length) {
            s.append(' ');
        }
        return s.append(behind).toString();
    }

    private static void tape() {
        T.of("the tape has 900 bytes");
        T.hall(padded(H + ";", P, 900));
        T.due("feed", Tape.feed(T.x, padded("", "", 900)), 900);
        T.due("feed past 900", T.x.feed(1, 2, 3, 4, 5), -1);
        T.due("bytes", T.x.size(9), 900);
        T.refused("hall(901)", T.x.hall(901), 2);
        T.of("the tape has 900 bytes, and a fault may be at the last one or behind it");
        T.fault(padded(H + ";" + P, "^.", 901), 1);
        T.fault(padded(H + ";" + P, ";^", 901), 1);
        T.fault(padded(H, " ^", 901), 6);
    }

    private static void blanks() {
        T.of("blanks part tokens and mean nothing else");
        T.hall("   hall   boxes 2  letters   2  ;  porter  a  draws  1  lot   ");
        T.hall("hall boxes2letters2;porter a draws1lot;lay0,0");
        T.hall("hall boxes 2letters 2 ;porter a draws 1lazy8;lay 0 , 0");
        T.fault("^ha ll boxes 2 letters 2;" + P, 1);
        T.fault(H + ";porter a ^dra ws 1 lot", 1);
        T.fault("hall boxes 1 ^0 letters 2;" + P, 1);
        T.fault(H + ";porter a ^b draws 1 lot", 1);
        T.fault(H + ";lay 1 ^1;" + P, 1);
        T.of("a blank is 32, and no other byte is");
        T.fault("hall^\tboxes 2 letters 2;" + P, 1);
        T.fault("hall^\nboxes 2 letters 2;" + P, 1);
        T.fault("hall^\0boxes 2 letters 2;" + P, 1);
        T.fault("hall^\u00a0boxes 2 letters 2;" + P, 1);
    }

    private static void words() {
        T.of("words of 1 letter");
        T.hall(H + ";porter a draws 1 lot;porter z draws 1 lot");
        T.of("words of 8 letters");
        T.hall(H + ";porter abcdefgh draws 1 lot;porter zzzzzzzz draws 1 lot;porter abcdefgi draws 1 lot;porter bbcdefgh draws 1 lot");
        T.of("words of no more than 8 letters");
        T.fault(H + ";porter ^abcdefghi draws 1 lot", 1);
        T.fault(H + ";" + P + ";porter ^aaaaaaaaa draws 1 lot", 1);
        T.fault("^hallboxes 2 letters 2;" + P, 1);
        T.fault("^abcdefghijklmnopqrstuvwxyzabcdefghijklmnopqrstuvwxyz", 1);
        T.of("words of letters that stand together");
        T.fault(H + ";porter porterb draws 1 lot;porter ^porterb draws 1 lot", 3);
        T.fault(H + ";^portera draws 1 lot", 1);
        T.of("words of small letters");
        T.fault("^Hall boxes 2 letters 2;" + P, 1);
        T.fault(H + ";porter ^A draws 1 lot", 1);
        T.fault(H + ";porter a^A draws 1 lot", 1);
        T.fault(H + ";porter ^` draws 1 lot", 1);
        T.fault(H + ";porter ^{ draws 1 lot", 1);
        T.fault(H + ";porter a^_ draws 1 lot", 1);
        T.fault(H + ";porter ^\u00e4 draws 1 lot", 1);
    }

    private static void wholes() {
        T.of("wholes of 1 to 3 digits");
        T.hall("hall boxes 02 letters 002;porter a draws 001 lazy 000;lay 02,002");
        T.due("boxes", T.x.size(0), 2);
        T.due("lazy", T.x.porter(0, 2), 0);
        T.fault("hall boxes ^999 letters 2", 4);
        T.fault("hall boxes ^000 letters 2", 4);
        T.of("wholes of no more than 3 digits");
        T.fault("hall boxes ^0002 letters 2;" + P, 1);
        T.fault("hall boxes ^1000 letters 2;" + P, 1);
        T.fault("hall boxes ^4294967298 letters 2;" + P, 1);
        T.fault("hall boxes 2 letters ^0000", 1);
        T.of("wholes of digits");
        T.fault("hall boxes ^/ letters 2", 1);
        T.fault("hall boxes ^: letters 2", 1);
        T.fault("hall boxes ^-2 letters 2", 1);
        T.fault("hall boxes ^+2 letters 2", 1);
        T.fault("hall boxes 2^.0 letters 2", 1);
    }

    private static void signs() {
        T.of("single ones of ; and ,");
        T.fault(H + ";^;" + P, 1);
        T.fault(H + ";lay 1,^,1", 1);
        T.fault("^;" + H + ";" + P, 1);
        T.fault("^," + H, 1);
        T.fault(H + "^,", 1);
        T.of("line {; line}: a line behind each ;");
        T.fault(H + ";" + P + ";^", 1);
        T.fault(H + ";" + P + ";  ^", 1);
        T.fault(H + ";" + P + " ^porter b draws 1 lot", 1);
    }

    private static void hallLine() {
        T.of("hall: 1 to 5 boxes");
        T.fault("hall boxes ^0 letters 2;" + P, 4);
        T.hall("hall boxes 1 letters 2;" + P);
        T.due("boxes", T.x.size(0), 1);
        T.hall("hall boxes 5 letters 2;" + P);
        T.due("boxes", T.x.size(0), 5);
        T.fault("hall boxes ^6 letters 2;" + P, 4);
        T.of("hall: 0 to 8 letters");
        T.hall("hall boxes 2 letters 0;" + P);
        T.due("letters", T.x.size(1), 0);
        T.hall("hall boxes 2 letters 8;" + P);
        T.due("letters", T.x.size(1), 8);
        T.fault("hall boxes 2 letters ^9;" + P, 4);
        T.fault("hall boxes 2 letters ^10;" + P, 4);
        T.of("hall: ahead of box, door, lay, and of no other line");
        T.hall(P + ";moves every 1;" + H + ";box 0 room 1 weight 1;door 0 every 1;lay 0,0");
    }

    private static void boxLine() {
        T.of("box: a box of the hall");
        T.hall(H + ";box 0 room 1 weight 1;box 1 room 1 weight 1;" + P);
        T.fault(H + ";box ^2 room 1 weight 1;" + P, 4);
        T.fault("hall boxes 5 letters 1;box 4 room 1 weight 1;box ^5 room 1 weight 1", 4);
        T.fault("hall boxes 1 letters 1;box ^1 room 1 weight 1", 4);
        T.of("box: each once");
        T.fault(H + ";box 0 room 1 weight 1;box ^0 room 1 weight 1", 3);
        T.fault(H + ";box 1 room 1 weight 1;box 0 room 1 weight 1;box ^1 room 1 weight 1", 3);
        T.fault("hall boxes 1 letters 1;box 0 room 8 weight 1;box ^0 room 8 weight 1", 3);
        T.of("box: each once in a text, whatever an earlier text told");
        T.fault(H + ";box 0 room 1 weight 1;^", 1);
        T.hall(H + ";box 0 room 2 weight 1;" + P);
        T.hall(H + ";box 0 room 3 weight 1;" + P);
        T.of("box: room 1 to 8");
        T.fault(H + ";box 0 room ^0 weight 1", 4);
        T.fault(H + ";box 0 room ^9 weight 1", 4);
        T.hall(H + ";box 0 room 1 weight 1;box 1 room 8 weight 1;" + P);
        T.due("room", T.x.boxOf(0, false), 1);
        T.due("room", T.x.boxOf(1, false), 8);
        T.of("box: weight 1 to 3");
        T.fault(H + ";box 0 room 1 weight ^0", 4);
        T.fault(H + ";box 0 room 1 weight ^4", 4);
        T.hall(H + ";box 0 room 1 weight 1;box 1 room 1 weight 3;" + P);
        T.due("weight", T.x.boxOf(0, true), 1);
        T.due("weight", T.x.boxOf(1, true), 3);
    }

    private static void porterLine() {
        T.of("porter: draws 1 to 3");
        T.fault(H + ";porter a draws ^0 lot", 4);
        T.fault(H + ";porter a draws ^4 lot", 4);
        T.hall(H + ";porter a draws 1 lot;porter b draws 3 lot");
        T.due("glances", T.x.porter(0, 0), 1);
        T.due("glances", T.x.porter(1, 0), 3);
        T.of("porter: lazy 0 to 8");
        T.fault(H + ";porter a draws 1 lazy ^9", 4);
        T.hall(H + ";porter a draws 1 lazy 0;porter b draws 1 lazy 8");
        T.due("lazy", T.x.porter(0, 2), 0);
        T.due("lazy", T.x.porter(1, 2), 8);
        T.of("porter: up to 6");
        StringBuilder s = new StringBuilder(H);
        for (int i = 0; i < 6; i++) {
            s.append(";porter ").append((char) ('a' + i)).append(" draws 1 lot");
        }
        T.hall(s.toString());
        T.due("porters", T.x.size(2), 6);
        T.fault(s + ";^porter g draws 1 lot", 5);
    }

    private static void rules() {
        T.of("rule: lot, left, lazy, beside or recalls");
        T.fault(H + ";porter a draws 1 ^", 1);
        T.fault(H + ";porter a draws 1^;", 1);
        T.fault(H + ";porter a draws 1 ^right", 1);
        T.fault(H + ";porter a draws 1 ^lots", 1);
        T.fault(H + ";porter a draws 1 ^recall", 1);
        T.fault(H + ";porter a draws ^lot", 1);
        T.of("a whole behind lazy, and behind no other rule");
        T.fault(H + ";porter a draws 1 lazy^;" + P, 1);
        T.fault(H + ";porter a draws 1 lazy^", 1);
        for (String rule : new String[] {"lot", "left", "lazy 1", "beside", "recalls"}) {
            T.fault(H + ";porter a draws 1 " + rule + " ^1", 1);
        }
    }

    private static void doorAndMoves() {
        T.of("door: a box of the hall");
        T.hall(H + ";door 0 every 1;" + P);
        T.hall(H + ";door 1 every 1;" + P);
        T.fault(H + ";door ^2 every 1;" + P, 4);
        T.of("door: every 1 to 9");
        T.fault(H + ";door 0 every ^0;" + P, 4);
        T.hall(H + ";door 0 every 9;" + P);
        T.fault(H + ";door 0 every ^10;" + P, 4);
        T.of("moves: every 1 to 9");
        T.fault("moves every ^0;" + H, 4);
        T.hall("moves every 1;" + H + ";" + P);
        T.hall("moves every 9;" + H + ";" + P);
        T.fault("moves every ^10;" + H, 4);
    }

    private static void lays() {
        T.of("lay: 0 to 8 each");
        T.hall(H + ";" + P + ";lay 0,0;lay 8,8;lay 0,8");
        T.fault(H + ";lay ^9,0", 4);
        T.fault(H + ";lay 0,^9", 4);
        T.of("lay: one for each box");
        T.fault(H + ";lay 0^;" + P, 1);
        T.fault(H + ";lay 0,0^,0;" + P, 1);
        T.fault(H + ";lay^;" + P, 1);
        T.fault(H + ";lay 0,^;" + P, 1);
        T.fault(H + ";lay 0^.0;" + P, 1);
        T.fault(H + ";lay 0^;0;" + P, 1);
        T.fault(H + ";lay 0^a0;" + P, 1);
        T.fault(H + ";lay 0 ^0;" + P, 1);
        T.fault(H + ";lay ^", 1);
        T.hall("hall boxes 1 letters 1;lay 1;" + P);
        T.fault("hall boxes 1 letters 1;lay 1^,1;" + P, 1);
        T.hall("hall boxes 5 letters 1;lay 0,0,0,0,1;" + P);
        T.fault("hall boxes 5 letters 1;lay 0,0,0,0^;" + P, 1);
        T.of("lay: up to 8");
        StringBuilder s = new StringBuilder(H + ";" + P);
        for (int i = 0; i < 8; i++) {
            s.append(";lay 1,").append(i);
        }
        T.hall(s.toString());
        T.due("lays", T.x.size(3), 8);
        T.fault(s + ";^lay 1,8", 5);
    }

    private static void names() {
        T.of("names are words but hall, box, porter, door, moves, lay");
        for (String name : new String[] {"hall", "box", "porter", "door", "moves", "lay"}) {
            T.fault(H + ";porter ^" + name + " draws 1 lot", 1);
        }
        T.fault(H + ";porter ^1 draws 1 lot", 1);
        T.fault(H + ";porter ^;", 1);
        T.fault(H + ";porter ^", 1);
        T.of("names may be all other words");
        T.hall(H + ";porter boxes draws 1 lot;porter letters draws 1 lot;porter room draws 1 lot;porter weight draws 1 lot;porter draws draws 1 lot;porter every draws 1 lot");
        T.hall(H + ";porter lot draws 1 lot;porter left draws 1 left;porter lazy draws 1 lazy 1;porter beside draws 1 beside;porter recalls draws 1 recalls;porter halls draws 1 lot");
        T.of("names: each told once");
        T.fault(H + ";" + P + ";porter ^a draws 1 left", 3);
        T.fault(H + ";" + P + ";porter b draws 1 lot;porter ^a draws 1 lot", 3);
        T.hall(H + ";" + P + ";porter aa draws 1 lot;porter aaaaaaaa draws 1 lot;porter aaaaaaa draws 1 lot");
        T.hall(H + ";porter b draws 1 lot;porter bb draws 1 lot;porter bbb draws 1 lot;porter zz draws 1 lot;porter z draws 1 lot;porter ba draws 1 lot");
        T.hall(H + ";porter ab draws 1 lot;porter ba draws 1 lot;porter aab draws 1 lot;porter aba draws 1 lot;porter az draws 1 lot;porter za draws 1 lot");
        T.of("names: each told once in a text, whatever an earlier text told");
        T.hall(H + ";" + P);
        T.hall(H + ";" + P);
        T.fault(H + ";" + P + ";^", 1);
        T.hall(H + ";" + P);
    }

    private static void form() {
        T.of("1: the first byte that begins no token");
        T.fault(H + ";" + P + "^!", 1);
        T.fault(H + "^.;" + P, 1);
        T.fault("^\0", 1);
        T.fault("^\u00ff", 1);
        T.fault("hall boxes 2^\u0080 letters 2", 1);
        T.of("1: a token with which no hall goes on");
        T.fault("^boxes 2", 1);
        T.fault("^2", 1);
        T.fault("hall ^letters 2", 1);
        T.fault("hall ^2", 1);
        T.fault("hall boxes ^letters", 1);
        T.fault("hall boxes 2 ^boxes", 1);
        T.fault(H + " ^lay 1,1", 1);
        T.fault(H + ";box ^room", 1);
        T.fault(H + ";box 0 ^weight", 1);
        T.fault(H + ";box 0 room 1^;", 1);
        T.fault(H + ";box 0 room 1 ^room 1", 1);
        T.fault(H + ";box 0 room 1 weight ^x", 1);
        T.fault(H + ";porter a ^1", 1);
        T.fault(H + ";door ^every 1", 1);
        T.fault(H + ";door 0 ^1", 1);
        T.fault(H + ";moves ^1", 1);
        T.fault(H + ";moves every ^x", 1);
        T.fault(H + ";lay ^,1", 1);
        T.of("1: words that are told in part, or but for a letter");
        T.fault("^ball boxes 2 letters 2;" + P, 1);
        T.fault("^hal boxes 2 letters 2;" + P, 1);
        T.fault("^halls boxes 2 letters 2;" + P, 1);
        T.fault("^halt boxes 2 letters 2;" + P, 1);
        T.fault("hall ^foxes 2 letters 2;" + P, 1);
        T.fault("hall boxes 2 ^letter 2;" + P, 1);
        T.fault(H + ";^fox 0 room 1 weight 1", 1);
        T.fault(H + ";^boxes 0 room 1 weight 1", 1);
        T.fault(H + ";box 0 ^roof 1 weight 1", 1);
        T.fault(H + ";box 0 room 1 ^weights 1", 1);
        T.fault(H + ";^sorter a draws 1 lot", 1);
        T.fault(H + ";porter a ^draw 1 lot", 1);
        T.fault(H + ";^doors 0 every 1", 1);
        T.fault(H + ";door 0 ^ever 1", 1);
        T.fault(H + ";^move every 1", 1);
        T.fault(H + ";^say 1,1", 1);
        T.of("1: the end, its place");
        T.fault("^", 1);
        T.fault("   ^", 1);
        T.fault("hall^", 1);
        T.fault("hall boxes ^", 1);
        T.fault("hall boxes 2^", 1);
        T.fault("hall boxes 2 letters^", 1);
        T.fault(H + ";box 0 room 1 weight^", 1);
        T.fault(H + ";porter a^", 1);
        T.fault(H + ";door 0 every^", 1);
        T.fault(H + ";moves^", 1);
    }

    private static void twice() {
        T.of("3: a second hall, at that word");
        T.fault(H + ";^" + H, 3);
        T.fault(H + ";" + P + ";^hall", 3);
        T.fault(H + ";^hall !", 3);
        T.of("3: a second door, at that word");
        T.fault(H + ";door 0 every 1;^door 1 every 2", 3);
        T.fault(H + ";door 0 every 1;^door", 3);
        T.of("3: a second moves, at that word");
        T.fault("moves every 1;" + H + ";^moves every 2", 3);
        T.fault("moves every 1;^moves", 3);
        T.of("3: a second one in the text itself alone");
        T.hall(H + ";door 0 every 1;moves every 1;" + P);
        T.hall(H + ";door 0 every 1;moves every 1;" + P);
        T.fault(H + ";door 0 every 1;moves every 1;" + P + ";^", 1);
        T.hall(H + ";door 0 every 1;moves every 1;" + P);
    }

    private static void bounds() {
        T.of("4: a whole out of bounds, at it, ahead of all that comes behind");
        T.fault("hall boxes ^6 letters 9", 4);
        T.fault("hall boxes ^7!", 4);
        T.fault(H + ";box ^2", 4);
        T.fault(H + ";box 0 room ^100 weight 100", 4);
        T.fault(H + ";porter a draws ^9 right", 4);
        T.fault(H + ";door ^3", 4);
        T.fault(H + ";lay ^999", 4);
    }

    private static void many() {
        StringBuilder s = new StringBuilder(H);
        for (int i = 0; i < 6; i++) {
            s.append(";porter ").append((char) ('a' + i)).append(" draws 1 lot");
        }
        T.of("5: a line more of its sort, at its first word, whatever comes behind");
        T.fault(s + ";^porter", 5);
        T.fault(s + ";^porter a draws 1 lot", 5);
        T.fault(s + ";^porter hall", 5);
        for (int i = 0; i < 8; i++) {
            s.append(";lay 0,0");
        }
        T.fault(s + ";^lay", 5);
        T.fault(s + ";^lay 9", 5);
        T.of("5: a line more than there is room for, of its own sort");
        T.hall(s + ";box 0 room 1 weight 1;box 1 room 1 weight 1;door 0 every 1;moves every 1");
    }

    private static void lacks() {
        T.of("6: box, door, lay ahead of the hall, at that word");
        T.fault("^box 0 room 1 weight 1;" + H + ";" + P, 6);
        T.fault("^door 0 every 1;" + H + ";" + P, 6);
        T.fault("^lay 0,0;" + H + ";" + P, 6);
        T.fault(P + ";^lay", 6);
        T.fault("moves every 1;^box !", 6);
        T.of("6: ahead of the hall of the text itself, whatever hall there is");
        T.hall(H + ";" + P);
        T.fault("^box 0 room 1 weight 1;" + H + ";" + P, 6);
        T.of("6: at the end, no hall");
        T.fault(P + "^", 6);
        T.fault("moves every 1^", 6);
        T.fault(P + "  ^", 6);
        T.of("6: at the end, no porter");
        T.fault(H + "^", 6);
        T.fault(H + ";box 0 room 1 weight 1;door 0 every 1;lay 0,0;moves every 1^", 6);
        T.fault(H + "   ^", 6);
    }

    private static void firstFault() {
        T.of("the first fault that is met from the left");
        T.fault("hall boxes ^0 letters 2;box 0 room 0 weight 0;lay;!", 4);
        T.fault(H + ";porter a draws 1 lot ^x;porter a draws 9 lot", 1);
        T.fault(H + ";" + P + ";porter ^a draws 9 lot;!", 3);
        T.fault("^lay 9;!", 6);
        T.of("of one place the least number: the end has no line, no hall and no porter");
        T.fault("^", 1);
        T.fault(H + ";^", 1);
        T.fault(P + ";^", 1);
    }

    private static void newObject() {
        T.of("1: no hall");
        for (int what = 0; what <= 9; what++) {
            T.due("size(" + what + ")", T.x.size(what), 0);
        }
        T.due("fault", T.x.fault(), 0);
        T.due("where", T.x.where(), -1);
        T.due("trouble", T.x.trouble(), 0);
        T.led(0, Bounds.NOTHING_LED);
        T.of("1: objects have nothing to do with one another");
        EmptierOfTwo other = T.x;
        T.of("1: objects have nothing to do with one another");
        T.hall(H + ";" + P);
        T.due("feed", T.x.feed(0, 0, 0, 0, 0), 20);
        T.due("the other's boxes", other.size(0), 0);
        T.due("the other's bytes", other.size(9), 0);
    }

    private static void feeds() {
        T.of("2: of each number the highest byte first");
        int blank = 0x20202020;
        for (int i = 0; i < 20; i++) {
            int[] w = {blank, blank, blank, blank, blank};
            int shift = 24 - i % 4 * 8;
            w[i / 4] = blank & ~(255 << shift) | 0xff << shift;
            T.due("feed", T.x.feed(w[0], w[1], w[2], w[3], w[4]), 20);
            T.due("hall", T.x.hall(20), -1);
            T.due("place of byte " + i, T.x.where(), i);
        }
        T.of("2: none comes if there would be more than 900");
        for (int i = 1; i <= 45; i++) {
            T.due("feed", T.x.feed(blank, blank, blank, blank, blank), 20L * i);
        }
        for (int i = 0; i < 3; i++) {
            T.due("feed past 900", T.x.feed(-1, -1, -1, -1, -1), -1);
            T.due("bytes", T.x.size(9), 900);
        }
        T.due("hall", T.x.hall(900), -1);
        T.due("no byte of a refused feed is there", T.x.where(), 900);
        T.due("feed again", T.x.feed(blank, blank, blank, blank, blank), 20);
        T.of("2: no number is told of it, so trouble stays");
        T.refused("box", T.x.box(0), 1);
        for (int i = 0; i < 46; i++) {
            T.x.feed(0, 0, 0, 0, 0);
        }
        T.due("trouble", T.x.trouble(), 1);
        T.fault("^", 1);
        for (int i = 0; i < 46; i++) {
            T.x.feed(0, 0, 0, 0, 0);
        }
        T.due("trouble", T.x.trouble(), 4);
        T.due("where", T.x.where(), 0);
    }

    private static void halls() {
        String text = H + ";" + P;
        int n = text.length();
        T.of("3: a number that isn't from 0 to the bytes of the tape: 2, and the tape stays");
        T.refused("hall(1) of an empty tape", T.x.hall(1), 2);
        T.refused("hall(-1) of an empty tape", T.x.hall(-1), 2);
        int fed = Tape.feed(T.x, text);
        for (int bad : new int[] {-1, fed + 1, 900, 901, Bounds.BIG, Bounds.SMALL}) {
            T.refused("hall(" + bad + ")", T.x.hall(bad), 2);
            T.due("bytes", T.x.size(9), fed);
        }
        T.fine("hall", T.x.hall(fed), 1);
        T.refused("hall again: the tape is empty", T.x.hall(1), 2);
        T.of("3: the first n bytes: 0 of them");
        Tape.feed(T.x, text);
        T.due("hall(0)", T.x.hall(0), -1);
        T.due("trouble", T.x.trouble(), 4);
        T.due("bytes", T.x.size(9), 0);
        T.of("3: the first n bytes, not one more");
        Tape.feed(T.x, text + "!");
        T.fine("hall", T.x.hall(n), 1);
        Tape.feed(T.x, text + "!");
        T.due("hall", T.x.hall(n + 1), -1);
        T.due("where", T.x.where(), n);
        T.of("3: the first n bytes: a word or a whole goes no further");
        Tape.feed(T.x, H + ";porter a draws 1 lazy 12");
        T.fine("hall", T.x.hall(n + 3), 1);
        T.due("lazy", T.x.porter(0, 2), 1);
        Tape.feed(T.x, H + ";porter a draws 1 lots");
        T.fine("hall", T.x.hall(n), 1);
        T.of("3: nothing is left of an earlier text on the tape");
        T.hall(H + ";porter abcdefgh draws 1 lazy 8;lay 1,1");
        Tape.feed(T.x, "hall boxes 2 letters");
        T.due("hall", T.x.hall(20), -1);
        T.due("fault", T.x.fault(), 1);
        T.due("where", T.x.where(), 20);
        T.of("3: the first n bytes, not one fewer");
        Tape.feed(T.x, text);
        T.due("hall", T.x.hall(n - 1), -1);
        T.due("where", T.x.where(), n - 3);
        T.of("3: what is fed behind a refused hall comes behind");
        Tape.feed(T.x, padded(H + ";", "", 40));
        T.refused("hall(41)", T.x.hall(41), 2);
        T.due("bytes", Tape.feed(T.x, P), 60);
        T.fine("hall", T.x.hall(60), 1);
    }

    private static void hallStays() {
        String text = "hall boxes 3 letters 3;porter a draws 1 left;porter b draws 2 recalls;door 2 every 3;lay 1,1,1;box 1 room 2 weight 2";
        T.of("3: refused by 4 the hall stays, its day and marks too, and the tape is empty", text);
        T.due("day", T.x.day(1, 8), true);
        T.due("put", T.x.put(2), 2);
        T.due("mark", T.x.mark(), 0);
        int[] before = new int[9];
        for (int what = 0; what < 9; what++) {
            before[what] = T.x.size(what);
        }
        long chance = T.x.lies(0, 0, false);
        long lower = T.x.lies(0, 0, true);
        for (String bad : new String[] {"^", "hall boxes 2 letters 1;porter c draws 3 lot;^", "hall boxes 5 letters 8;porter x draws 3 lot;door 1 every 1;moves every 1;lay 1,1,1,1,1;^!"}) {
            T.fault(bad, 1);
            T.due("bytes", T.x.size(9), 0);
            for (int what = 0; what < 9; what++) {
                T.due("size(" + what + ")", T.x.size(what), before[what]);
            }
            T.due("chance", T.x.lies(0, 0, false), chance);
            T.due("chance", T.x.lies(0, 0, true), lower);
            T.due("room", T.x.boxOf(1, false), 2);
            T.due("weight", T.x.boxOf(1, true), 2);
            T.due("rule", T.x.porter(1, 1), 4);
        }
        T.chance("the door's letter", w -> T.x.goes(2, w), 1, 1);
        T.due("put", T.x.put(1), 1);
        T.due("back", T.x.back(0), true);
        T.due("letters", T.x.size(5), 2);
    }

    private static void hallsDay() {
        T.of("3: from now on: nothing is left of the hall that was", "hall boxes 5 letters 8;porter a draws 3 left;porter b draws 3 lazy 2;box 0 room 1 weight 3;box 1 room 2 weight 2;door 0 every 1;moves every 1;lay 1,1,1,1,4");
        T.due("day", T.x.day(1, 77), true);
        T.due("put", T.x.put(8), 8);
        T.due("mark", T.x.mark(), 0);
        T.due("chance", T.x.fullest(0, 8, 9, true), 1);
        T.due("never", T.x.never(8, 8), 1);
        T.due("best", T.x.best(1, 8, 8), 0);
        T.hall("hall boxes 2 letters 8;porter c draws 1 left");
        int[] want = {2, 8, 1, 0, 0, 0, 0, 0, 0, 0};
        for (int what = 0; what <= 9; what++) {
            T.due("size(" + what + ")", T.x.size(what), want[what]);
        }
        T.boxes(0, 0, -1);
        T.refused("back", T.x.back(0), 1);
        T.due("room", T.x.boxOf(0, false), 8);
        T.due("weight", T.x.boxOf(0, true), 1);
        T.chance("all in one box, a row of this hall", w -> T.x.fullest(0, 8, 8, w), 1, 128);
        T.due("never, a row of this hall", T.x.never(8, 8), -2);
        T.chance("best, a row of this hall", w -> T.x.bestChance(1, 8, 8, w), 1, 128);
        T.of("3: from now on: chances are of this hall, whatever was asked of others");
        for (int i = 0; i < 3; i++) {
            T.hall("hall boxes 5 letters 5" + ";porter a draws 2 left;porter b draws 1 left;box 4 room 1 weight 1");
            // 120 ways to see each box once, and 60 to see the last, which is full then, twice and the first never
            T.chance("none empty", w -> T.x.empty(1, 5, 0, w), 36, 625);
            T.hall("hall boxes 1 letters 8;porter a draws 1 left;box 0 room 3 weight 1");
            T.chance("returned", w -> T.x.mean(0, 8, 2, w), 5, 1);
            T.hall("hall boxes 3 letters 3;porter a draws 1 left");
            T.chance("each in a box of its own", w -> T.x.empty(0, 3, 0, w), 2, 9);
            T.chance("returned", w -> T.x.mean(0, 3, 2, w), 0, 1);
            T.hall("hall boxes 2 letters 4;porter a draws 1 left;box 0 room 1 weight 1;box 1 room 1 weight 1");
            T.chance("returned", w -> T.x.mean(0, 4, 2, w), 2, 1);
        }
        T.of("3: a day of the first porter, seed 0", "hall boxes 2 letters 8;porter a draws 1 recalls;porter b draws 1 lot");
        T.due("put", T.x.put(1), 1);
        T.due("seed", T.x.size(7), 74);
        T.due("first porter", T.x.recall(), 0);
    }

    private static void faultAndWhere() {
        T.of("4: 0 without a fault");
        T.due("fault", T.x.fault(), 0);
        T.hall(H + ";" + P);
        T.due("fault", T.x.fault(), 0);
        T.of("4: of the latest hall not refused by 2");
        T.fault("hall boxes ^9", 4);
        T.refused("hall(1)", T.x.hall(1), 2);
        T.due("fault", T.x.fault(), 4);
        T.fault(H + ";^hall", 3);
        T.due("box", T.x.box(0), -1);
        T.due("fault", T.x.fault(), 3);
        T.hall(H + ";" + P);
        T.due("fault", T.x.fault(), 0);
        T.refused("hall(-1)", T.x.hall(-1), 2);
        T.due("fault", T.x.fault(), 0);
        T.of("5: where only if the latest call that may be refused was by 4");
        T.due("where", T.x.where(), -1);
        T.fault("hall boxes ^9", 4);
        T.due("fault", T.x.fault(), 4);
        T.due("trouble", T.x.trouble(), 4);
        T.due("size", T.x.size(-1), -1);
        T.led(0, Bounds.NOTHING_LED);
        T.due("feed", T.x.feed(0, 0, 0, 0, 0), 20);
        T.due("where", T.x.where(), 11);
        T.refused("hall(21)", T.x.hall(21), 2);
        T.due("fault", T.x.fault(), 4);
        T.fault("^", 1);
        T.fault("hall boxes 1 ^9", 1);
        T.refused("mark", T.x.mark(), 1);
        T.hall(H + ";" + P);
        T.due("where", T.x.where(), -1);
    }
}
