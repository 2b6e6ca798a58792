/** How tests tell a desk its texts. */
final class Telling {
    private Telling() {
    }

    /** Puts a text on the tape, alone; answers how many calls that took. */
    static int type(WhichWill desk, String text) {
        desk.end(0);
        int feeds = 0;
        for (int from = 0; from < text.length(); from += 20) {
            feed(desk, text.substring(from, Math.min(text.length(), from + 20)));
            feeds++;
        }
        desk.end(text.length());
        return feeds + 2;
    }

    /** Feeds up to twenty bytes, and bytes 0 behind them. */
    static int feed(WhichWill desk, String twenty) {
        int[] ints = new int[5];
        for (int i = 0; i < twenty.length(); i++) {
            ints[i / 4] |= twenty.charAt(i) << 24 - 8 * (i % 4);
        }
        return desk.feed(ints[0], ints[1], ints[2], ints[3], ints[4]);
    }

    static int estate(WhichWill desk, String text) {
        type(desk, text);
        return desk.estate();
    }

    static int paper(WhichWill desk, String text) {
        type(desk, text);
        return desk.paper();
    }

    static int settle(WhichWill desk, String text) {
        type(desk, text);
        return desk.settle();
    }
}
