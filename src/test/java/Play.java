/** Short ways to set up an object for a test. */
final class Play {
    private Play() {
    }

    /** An object with KINGS: strength and place of each. */
    static KingsBalance kings(int... strengthsAndPlaces) {
        KingsBalance x = new KingsBalance();
        for (int i = 0; i + 1 < strengthsAndPlaces.length; i += 2) x.king(strengthsAndPlaces[i], strengthsAndPlaces[i + 1]);
        return x;
    }

    /** Feeds a text eight bytes at a time. */
    static void feed(KingsBalance x, String text) {
        for (int from = 0; from < text.length(); from += 8) {
            int to = Math.min(text.length(), from + 8);
            long w = 0;
            for (int i = from; i < to; i++) w = w << 8 | text.charAt(i) & 255;
            x.feed(w, to - from);
        }
    }

    static int world(KingsBalance x, String text) {
        feed(x, text);
        return x.world();
    }

    static String times(String part, int n) {
        return part.repeat(n);
    }
}
