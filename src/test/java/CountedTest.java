/** Promises 16 to 20: what they counted. */
public final class CountedTest {
    private static final int UNKNOWN = -1, OUTSIDE = -2, FULL = -4;
    private static final long LOST = Long.MIN_VALUE;
    private static final String THREE = "f;p151;s133;b262";

    private final Due due = new Due("CountedTest");

    public static void main(String[] args) {
        CountedTest test = new CountedTest();
        test.reading();
        test.back();
        test.weights();
        test.kinds();
        test.readingsOfOthers();
        test.oddsOfAll();
        test.oddsOfChairs();
        test.refusalsOfOdds();
        test.due.end();
    }

    private void reading() {
        due.promise("16 reading");
        ChairBallot x = new ChairBallot();
        due.is("no front", x.reading(0, 0), UNKNOWN);
        x = Beach.with(THREE);
        due.is("no such chair ahead of votes", x.reading(3, 11), UNKNOWN);
        due.is("no such chair", x.reading(-1, 0), UNKNOWN);
        due.is("reading(0, 11)", x.reading(0, 11), OUTSIDE);
        due.is("reading(0, -1)", x.reading(0, -1), OUTSIDE);
        due.is("there are none yet", x.many(3), 0);
        for (int r = 0; r < 8; r++) {
            due.is("reading " + r, x.reading(r % 3, r == 0 ? 0 : 10), r);
            due.is("how many", x.many(3), r + 1);
        }
        due.is("a ninth", x.reading(0, 5), FULL);
        due.is("a ninth of no such chair", x.reading(3, 5), UNKNOWN);
        due.is("a ninth of too many votes", x.reading(0, 11), OUTSIDE);
        due.is("how many", x.many(3), 8);
        x.back(1);
        x.rain();
        due.is("of a folded one", x.reading(0, 5), 7);
    }

    private void back() {
        due.promise("17 back");
        ChairBallot x = new ChairBallot();
        due.is("back(0)", x.back(0), 0);
        due.is("back(1)", x.back(1), OUTSIDE);
        x = Beach.with(THREE);
        x.reading(0, 5);
        x.reading(0, 6);
        x.reading(0, 7);
        due.is("back(4)", x.back(4), OUTSIDE);
        due.is("back(-1)", x.back(-1), OUTSIDE);
        due.is("back(0)", x.back(0), 3);
        due.is("back(2)", x.back(2), 1);
        due.is("the first one is left", x.weights(0), 1 << 5);
        due.is("the next one's number", x.reading(0, 5), 1);
        due.is("back(2)", x.back(2), 0);
        due.is("none is left", x.weights(0), 1022);
    }

    private void weights() {
        due.promise("18 weights");
        ChairBallot x = new ChairBallot();
        due.is("no front", x.weights(0), UNKNOWN);
        int[] plain = {0, 1 << 1, 1 << 2, 1 << 3, 1 << 4, 1 << 5, 1 << 6, 1 << 7, 1 << 8, 1 << 9, 0};
        int[] shaded = {0, 0, 1 << 1, 1 << 2, 1 << 3, 1 << 4, 1 << 5, 1 << 6, 1 << 7, 1 << 8, 1 << 9};
        int[] broken = {0, 3 << 1, 3 << 3, 3 << 5, 3 << 7, 1 << 9, 0, 0, 0, 0, 0};
        int[][] all = {plain, shaded, broken};
        x = Beach.with(THREE);
        for (int k = 0; k < 3; k++) {
            for (int v = 0; v <= 10; v++) {
                x.reading(k, v);
                due.is("weights of " + k + " by " + v, x.weights(k), all[k][v]);
                x.back(1);
            }
        }
        due.is("weights(3)", x.weights(3), UNKNOWN);
        due.is("weights(-1)", x.weights(-1), UNKNOWN);
        x.reading(2, 2);
        x.reading(2, 2);
        due.is("all readings", x.weights(2), 3 << 3);
        x.reading(2, 3);
        due.is("readings that are at odds", x.weights(2), 0);
        x.back(1);
        x.rain();
        due.is("it was not folded", x.weights(2), 3 << 3);
        due.is("its weight stays", x.ofChair(2, 2), 6);
    }

    private void kinds() {
        due.promise("19 kinds");
        ChairBallot x = new ChairBallot();
        due.is("no front", x.kinds(0), UNKNOWN);
        x = Beach.with("f;p010;s050;b090");
        due.is("no readings", x.kinds(0), 7);
        int[] ofOne = {0, 5, 2, 0, 0, 0, 0, 0, 0, 0, 0};
        int[] ofFive = {0, 0, 0, 4, 0, 1, 2, 0, 0, 0, 0};
        int[] ofNine = {0, 0, 0, 0, 0, 4, 0, 0, 0, 1, 2};
        int[][] all = {ofOne, ofFive, ofNine};
        for (int k = 0; k < 3; k++) {
            for (int v = 0; v <= 10; v++) {
                x.reading(k, v);
                due.is("kinds of " + k + " by " + v, x.kinds(k), all[k][v]);
                x.back(1);
            }
        }
        due.is("kinds(3)", x.kinds(3), UNKNOWN);
        due.is("kinds(-1)", x.kinds(-1), UNKNOWN);
        x.reading(0, 1);
        x.rain();
        due.is("it was not folded", x.kinds(0), 5);
        due.is("its kind stays", x.ofChair(1, 0), 1);
    }

    private void readingsOfOthers() {
        due.promise("18 weights, 19 kinds: all readings");
        ChairBallot x = Beach.with(THREE);
        x.reading(1, 4);
        due.is("another's is so", x.weights(0), 1022);
        due.is("another's is so", x.kinds(0), 7);
        x.reading(2, 4);
        due.is("another's is not so", x.weights(0), 0);
        due.is("another's is not so", x.kinds(0), 0);
        due.is("its own, in place of what it is", x.weights(2), 3 << 7);
        due.is("its own, of no kind", x.kinds(2), 0);
        x.load(2, 7);
        due.is("as it is loaded now", x.weights(0), 1022);
        due.is("as it is loaded now", x.kinds(2), 4);
        x.rain();
        due.is("others were not folded", x.weights(0), 1022);
        due.is("others were not folded", x.kinds(0), 7);
    }

    private void oddsOfAll() {
        due.promise("20 odds");
        odds(Beach.with("f;p151;s133;b262;p311;s253"), -1, 1, 2);
        odds(Beach.with("f;p010;p010"), -1, 1, 4);
        odds(Beach.with("f;p010;p020"), -1, 1, 2);
        odds(Beach.with("f;p011;p013;p012"), -1, 1, 2);
        odds(Beach.with("f" + ";p012".repeat(4)), -1, 5, 16);
        odds(Beach.with("f" + ";s090".repeat(8)), -1, 93, 256);
        ChairBallot eight = Beach.with("f" + ";s090".repeat(8));
        eight.rain();
        odds(eight, -1, 0, 1);
        ChairBallot x = Beach.with(THREE);
        odds(x, -1, 1, 2);
        due.is("nothing is changed", Beach.looks(x), 132);
        x.rain();
        odds(x, -1, 0, 1);
        x.open(2);
        odds(x, -1, 1, 2);
        x.load(0, 3);
        x.open(0);
        odds(x, -1, 1, 4);
    }

    private void oddsOfChairs() {
        due.promise("20 odds: of a chair");
        ChairBallot x = Beach.with("f;p151;s133;b262;p311;s253");
        odds(x, 0, 3, 8);
        odds(x, 1, 3, 8);
        odds(x, 2, 1, 8);
        odds(x, 3, 1, 8);
        odds(x, 4, 5, 8);
        ChairBallot y = Beach.with("f;p011;p013;p092");
        odds(y, 0, 0, 1);
        odds(y, 1, 0, 1);
        odds(y, 2, 1, 1);
        ChairBallot z = Beach.with("f" + ";s090".repeat(8));
        for (int k = 0; k < 8; k++) {
            odds(z, k, 35, 128);
        }
        z.rain();
        z.open(7);
        odds(z, 7, 1, 1);
        z.open(3);
        odds(z, 7, 1, 2);
        odds(z, 3, 1, 2);
        z.open(0);
        odds(z, 0, 1, 2);
        ChairBallot even = Beach.with("f;p030;p020;p010");
        odds(even, 0, 3, 4);
        odds(even, 1, 1, 4);
        odds(even, 2, 1, 4);
    }

    private void refusalsOfOdds() {
        due.promise("20 odds: refusals");
        due.is("no front", new ChairBallot().odds(-1, 0), LOST);
        ChairBallot x = Beach.with(THREE);
        due.is("odds(3, 0)", x.odds(3, 0), LOST);
        due.is("odds(-2, 0)", x.odds(-2, 0), LOST);
        due.is("odds(0, 2)", x.odds(0, 2), LOST);
        due.is("odds(0, -1)", x.odds(0, -1), LOST);
        due.is("odds(-1, 2)", x.odds(-1, 2), LOST);
        x.rain();
        x.open(0);
        due.is("a folded one", x.odds(1, 0), LOST);
        due.is("one that is not folded", x.odds(0, 0), 1);
    }

    private void odds(ChairBallot x, int k, long upper, long lower) {
        due.is("odds(" + k + ", 0)", x.odds(k, 0), upper);
        due.is("odds(" + k + ", 1)", x.odds(k, 1), lower);
    }
}
