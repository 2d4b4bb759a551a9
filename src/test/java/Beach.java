/** Puts texts and days on sheets, so that the tests can tell them in a line. */
final class Beach {
    static final int BYTES = 0, SHORTS = 1, INTS = 2;
    /** The sheets that the helpers here write on. */
    static final int TEXT_SHEET = 1, DAY_SHEET = 2;

    private Beach() {
    }

    /** A new object with a front. */
    static ChairBallot with(String text) {
        ChairBallot x = new ChairBallot();
        int chairs = front(x, text);
        if (chairs < 0) {
            throw new IllegalStateException(text + " is no text: " + chairs);
        }
        return x;
    }

    /** Tells a front by a text that is a sheet's whole row. */
    static int front(ChairBallot x, String text) {
        write(x, TEXT_SHEET, SHORTS, text);
        return x.front(TEXT_SHEET, SHORTS, 0, text.length());
    }

    static void write(ChairBallot x, int sheet, int lane, String text) {
        int[] codes = new int[text.length()];
        for (int i = 0; i < codes.length; i++) {
            codes[i] = text.charAt(i);
        }
        write(x, sheet, lane, codes);
    }

    static void write(ChairBallot x, int sheet, int lane, int... cells) {
        x.sheet(sheet, lane, cells.length);
        for (int i = 0; i < cells.length; i++) {
            x.put(sheet, i, cells[i]);
        }
    }

    /** Tells a day whose pairs are a sheet's whole row. */
    static int day(ChairBallot x, int what, int... cells) {
        write(x, DAY_SHEET, INTS, cells);
        return x.day(DAY_SHEET, INTS, 0, cells.length / 2, what);
    }

    /** Which way each chair looks, a decimal digit each, the first chair's first. */
    static int looks(ChairBallot x) {
        int all = 0;
        for (int k = 0; k < x.many(0); k++) {
            all = 10 * all + x.ofChair(k, 3);
        }
        return all;
    }

    /** Who is folded, as a set. */
    static int folded(ChairBallot x) {
        int set = 0;
        for (int k = 0; k < x.many(0); k++) {
            set |= x.ofChair(k, 4) << k;
        }
        return set;
    }
}
