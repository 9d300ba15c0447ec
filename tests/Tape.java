/** Brings texts into the class. */
final class Tape {
    private Tape() {
    }

    /** Feeds a text, blanks behind it, and no more: how many bytes there are then. */
    static int feed(EmptierOfTwo x, String text) {
        int count = x.size(9);
        for (int i = 0; i < text.length(); i += 20) {
            int[] fours = new int[5];
            for (int j = 0; j < 20; j++) {
                int c = i + j < text.length() ? text.charAt(i + j) : ' ';
                fours[j / 4] = fours[j / 4] << 8 | c & 255;
            }
            count = x.feed(fours[0], fours[1], fours[2], fours[3], fours[4]);
        }
        return count;
    }

    static int hall(EmptierOfTwo x, String text) {
        feed(x, text);
        return x.hall(text.length());
    }
}
