/** Promises 7 to 11: what turns them. */
public final class TurnsTest {
    private static final int UNKNOWN = -1, OUTSIDE = -2, STATE = -3, NONE = -9;
    private static final int NULL = -11, CAST = -12, INDEX = -13;
    private static final String THREE = "f;p151;s133;b262";

    private final Due due = new Due("TurnsTest");

    public static void main(String[] args) {
        TurnsTest test = new TurnsTest();
        test.turn();
        test.gust();
        test.rain();
        test.open();
        test.daysWithoutWrong();
        test.firstWrong();
        test.dayChangesNothing();
        test.refusalsOfDay();
        test.faultsOfDay();
        test.pairsOfDay();
        test.due.end();
    }

    private void turn() {
        due.promise("7 turn");
        ChairBallot x = new ChairBallot();
        due.is("no front", x.turn(0, 0), UNKNOWN);
        x = Beach.with(THREE);
        int ahead = 1;
        for (int way = 0; way < 4; way++) {
            due.is("turn(0, " + way + ")", x.turn(0, way), ahead);
            due.is("it looks", Beach.looks(x), 100 * way + 32);
            ahead = way;
        }
        due.is("turn(2, 0)", x.turn(2, 0), 2);
        due.is("turn(3, 4)", x.turn(3, 4), UNKNOWN);
        due.is("turn(-1, 0)", x.turn(-1, 0), UNKNOWN);
        due.is("turn(0, 4)", x.turn(0, 4), OUTSIDE);
        due.is("turn(0, -1)", x.turn(0, -1), OUTSIDE);
        x.rain();
        due.is("outside ahead of folded", x.turn(0, 4), OUTSIDE);
        due.is("a folded one", x.turn(0, 0), STATE);
        due.is("nothing is changed", Beach.looks(x), 330);
        x.open(0);
        due.is("it is opened", x.turn(0, 0), 3);
    }

    private void gust() {
        due.promise("8 gust");
        ChairBallot x = new ChairBallot();
        due.is("no front ahead of way", x.gust(4, 11), STATE);
        String four = "f;p011;p032;p050;p093";
        int[] strengths = {0, 1, 2, 3, 4, 5, 6, 9, 10};
        int[] changed = {0, 0, 1, 1, 2, 2, 2, 2, 3};
        int[] looks = {1203, 1203, 203, 203, 3, 3, 3, 3, 0};
        for (int s = 0; s < strengths.length; s++) {
            x = Beach.with(four);
            due.is("gust(0, " + strengths[s] + ")", x.gust(0, strengths[s]), changed[s]);
            due.is("they look", Beach.looks(x), looks[s]);
            due.is("once more", x.gust(0, strengths[s]), 0);
        }
        for (int way = 0; way < 4; way++) {
            x = Beach.with(four);
            due.is("gust(" + way + ", 10)", x.gust(way, 10), 3);
            due.is("they look", Beach.looks(x), 1111 * way);
        }
        due.is("gust(-1, 0)", x.gust(-1, 0), OUTSIDE);
        due.is("gust(4, 0)", x.gust(4, 0), OUTSIDE);
        due.is("gust(0, -1)", x.gust(0, -1), OUTSIDE);
        due.is("gust(0, 11)", x.gust(0, 11), OUTSIDE);
        due.is("nothing is changed", Beach.looks(x), 3333);
        x.rain();
        x.open(1);
        due.is("only those not folded", x.gust(0, 10), 1);
        due.is("only those not folded", Beach.looks(x), 3033);
        ChairBallot shaded = Beach.with("f;s043;b053");
        due.is("by weight, not by votes", shaded.gust(0, 5), 1);
        due.is("by weight, not by votes", Beach.looks(shaded), 3);
    }

    private void rain() {
        due.promise("9 rain");
        ChairBallot x = new ChairBallot();
        due.is("no front", x.rain(), STATE);
        x = Beach.with(THREE);
        due.is("rain()", x.rain(), 3);
        due.is("folded", Beach.folded(x), 7);
        due.is("none is folded by it", x.rain(), 0);
        x.open(1);
        due.is("one is folded by it", x.rain(), 1);
        due.is("folded", Beach.folded(x), 7);
    }

    private void open() {
        due.promise("10 open");
        ChairBallot x = new ChairBallot();
        due.is("no front", x.open(0), UNKNOWN);
        x = Beach.with(THREE);
        due.is("one that is not folded", x.open(0), STATE);
        x.rain();
        due.is("open(1)", x.open(1), 2);
        due.is("folded", Beach.folded(x), 5);
        due.is("it looks as ahead", x.ofChair(1, 3), 3);
        due.is("once more", x.open(1), STATE);
        due.is("open(3)", x.open(3), UNKNOWN);
        due.is("open(-1)", x.open(-1), UNKNOWN);
        due.is("open(0)", x.open(0), 1);
        due.is("open(2)", x.open(2), 0);
        due.is("folded", Beach.folded(x), 0);
        due.is("all look as ahead", Beach.looks(x), 132);
    }

    private void daysWithoutWrong() {
        due.promise("11 day");
        told(Beach.with(THREE), new int[] {}, 9, NONE, 3, 0, 0, 1, 3, 2, NONE);
        told(Beach.with(THREE), new int[] {0, 0}, 5, NONE, 3, 0, 1, 0, 3, 2, NONE);
        told(Beach.with(THREE), new int[] {0, 2}, 0, NONE, 8, 0, 0, 2, 3, 2, NONE);
        told(Beach.with(THREE), new int[] {0, 2, 2, 0, 1, 0, 0, 1, 0, 3}, 7, NONE, 0, 0, 3, 3, 0, 0, NONE);
        told(Beach.with(THREE), new int[] {5, 4}, 4, NONE, 3, 0, 1, 1, 0, 2, NONE);
        told(Beach.with(THREE), new int[] {0, 7, 10, 4}, 12, NONE, 0, 0, 2, 0, 0, 0, NONE);
        told(Beach.with(THREE), new int[] {4, 5, 6, 6, 10, 7}, 0, NONE, 0, 0, 0, 3, 3, 3, NONE);
        told(Beach.with(THREE), new int[] {0, 8, 10, 4}, 0, NONE, 0, 7, 0, 1, 3, 2, NONE);
        told(Beach.with(THREE), new int[] {0, 8, 0, 8, 1, 9, 0, 9}, 9, NONE, 0, 4, 1, 1, 3, 2, NONE);
        told(Beach.with(THREE), new int[] {0, 8, 1, 9, 1, 0, 0, 8}, 0, NONE, 0, 7, 1, 1, 0, 2, NONE);
        int[] long20 = new int[40];
        for (int pair = 0; pair < 20; pair++) {
            long20[2 * pair + 1] = pair % 2 == 0 ? 2 : 0;
        }
        told(Beach.with(THREE), long20, 5, NONE, 3, 0, 10, 0, 3, 2, NONE);
        ChairBallot y = Beach.with("f" + ";s090".repeat(8));
        for (int k = 0; k < 8; k++) {
            due.is("day of chair " + k, Beach.day(y, 10 + k, 7, 3), k == 7 ? 3 : 0);
        }
        for (int lane = 0; lane < 3; lane++) {
            Beach.write(y, 0, lane, 0, 0, 7, 2, 6, 2);
            due.is("from the middle", y.day(0, lane, 2, 1, 2), 10);
            due.is("from the middle", y.day(0, lane, 2, 2, 2), 20);
        }
    }

    /** Answers: what 0 to 4, then which way chairs 0 to 3 look. */
    private void told(ChairBallot x, int[] pairs, int... answers) {
        for (int a = 0; a < answers.length; a++) {
            int what = a <= 4 ? a : a + 5;
            due.is("day of " + pairs.length / 2 + " pairs, what " + what, Beach.day(x, what, pairs), answers[a]);
            due.is("fault", x.fault(), 0);
        }
    }

    private void firstWrong() {
        due.promise("11 day: first wrong");
        wrongAt(Beach.with(THREE), 0, 0, 9);
        wrongAt(Beach.with(THREE), 0, 2, 9, 0, 8, 0, 0);
        wrongAt(Beach.with(THREE), 1, 0, 8, 0, 0);
        wrongAt(Beach.with(THREE), 1, 0, 8, 2, 3, 1, 9);
        wrongAt(Beach.with(THREE), 2, 0, 8, 1, 9, 1, 9);
        wrongAt(Beach.with(THREE), 3, 0, 8, 1, 9, 1, 0, 0, 1);
        ChairBallot x = Beach.with(THREE);
        x.rain();
        wrongAt(x, 0, 0, 0);
        wrongAt(x, 1, 10, 4, 2, 0);
        told(x, new int[] {2, 9, 2, 0}, 3, NONE, 0, 3, 1, 1, 3, 0, NONE);
    }

    private void wrongAt(ChairBallot x, int pair, int... pairs) {
        for (int what = 0; what < 18; what++) {
            if (what < 5 || what > 9) {
                due.is("wrong day, what " + what, Beach.day(x, what, pairs), what == 1 ? pair : -100 - pair);
                due.is("fault", x.fault(), 0);
            }
        }
    }

    private void dayChangesNothing() {
        due.promise("11 day: nothing is changed");
        ChairBallot x = Beach.with(THREE);
        Beach.day(x, 0, 10, 4, 0, 8, 1, 9);
        Beach.day(x, 0, 0, 2, 0, 9);
        due.is("looks", Beach.looks(x), 132);
        due.is("folded", x.many(1), 0);
        due.is("votes for", x.poll(0), 9);
    }

    private void refusalsOfDay() {
        due.promise("11 day: refusals");
        ChairBallot x = new ChairBallot();
        due.is("no such sheet ahead of all", x.day(4, 3, -1, 21, 5), UNKNOWN);
        due.is("no such sheet", x.day(-1, 0, 0, 0, 0), UNKNOWN);
        due.is("lane ahead of front", x.day(0, 3, 0, 0, 0), OUTSIDE);
        due.is("lane below 0", x.day(0, -1, 0, 0, 0), OUTSIDE);
        due.is("n ahead of front", x.day(0, 0, 0, 21, 0), OUTSIDE);
        due.is("n below 0", x.day(0, 0, 0, -1, 0), OUTSIDE);
        int[] others = {-1, 5, 9, 18, Integer.MAX_VALUE, Integer.MIN_VALUE};
        for (int what : others) {
            due.is("what " + what, x.day(0, 0, 0, 0, what), OUTSIDE);
        }
        x.cell(0, 0, 0);
        due.is("a fault", x.fault(), 1);
        due.is("no front ahead of nothing", x.day(0, 0, -1, 1, 0), STATE);
        due.is("fault of a refused one", x.fault(), 0);
        x.sheet(1, 1, 1);
        due.is("no front ahead of lane", x.day(1, 2, -1, 1, 0), STATE);
    }

    private void faultsOfDay() {
        due.promise("11 day: faults");
        ChairBallot x = Beach.with(THREE);
        due.is("nothing ahead of index", x.day(0, 0, -1, 1, 0), NULL);
        due.is("fault", x.fault(), 1);
        due.is("another lane ahead of index", x.day(1, 2, -1, 1, 0), CAST);
        due.is("fault", x.fault(), 2);
        due.is("what ahead of lane", x.day(1, 2, -1, 1, 5), OUTSIDE);
        due.is("fault of a refused one", x.fault(), 0);
        Beach.write(x, 2, 2, 0, 0, 1, 0, 99);
        due.is("one cell short, ahead of pairs", x.day(2, 2, 2, 2, 0), INDEX);
        due.is("fault", x.fault(), 3);
        due.is("from below 0", x.day(2, 2, -1, 1, 0), INDEX);
        due.is("from below 0, none taken", x.day(2, 2, -1, 0, 0), INDEX);
        due.is("from behind the end, none taken", x.day(2, 2, 6, 0, 0), INDEX);
        due.is("from the end, none taken", x.day(2, 2, 5, 0, 0), 9);
        due.is("fault", x.fault(), 0);
        due.is("from the end, one taken", x.day(2, 2, 5, 1, 0), INDEX);
        due.is("from the last cell", x.day(2, 2, 4, 1, 0), INDEX);
        due.is("a sum that wraps", x.day(2, 2, Integer.MAX_VALUE, 1, 0), INDEX);
        due.is("two pairs", x.day(2, 2, 0, 2, 0), 9);
    }

    private void pairsOfDay() {
        due.promise("11 day: pairs");
        ChairBallot x = Beach.with(THREE);
        due.is("second 10", Beach.day(x, 1, 0, 10), OUTSIDE);
        due.is("second -1", Beach.day(x, 1, 0, -1), OUTSIDE);
        due.is("second 10, no chair", Beach.day(x, 1, 9, 10), OUTSIDE);
        for (int act = 4; act <= 7; act++) {
            due.is("gust of 10", Beach.day(x, 1, 10, act), NONE);
            due.is("gust of 11", Beach.day(x, 1, 11, act), OUTSIDE);
            due.is("gust of -1", Beach.day(x, 1, -1, act), OUTSIDE);
        }
        due.is("rain of 1", Beach.day(x, 1, 1, 8), OUTSIDE);
        due.is("rain of -1", Beach.day(x, 1, -1, 8), OUTSIDE);
        int[] ofChairs = {0, 1, 2, 3, 9};
        for (int act : ofChairs) {
            due.is("no such chair", Beach.day(x, 1, 3, act), UNKNOWN);
            due.is("no such chair", Beach.day(x, 1, -1, act), UNKNOWN);
        }
        due.is("a pair ahead of any act", Beach.day(x, 1, 0, 9, 3, 0), UNKNOWN);
        due.is("pair by pair", Beach.day(x, 1, 3, 0, 0, 10), UNKNOWN);
        due.is("pair by pair", Beach.day(x, 1, 0, 10, 3, 0), OUTSIDE);
        due.is("fault of a refused one", x.fault(), 0);
        due.is("pairs beyond n do not count", x.day(2, 2, 0, 0, 1), NONE);
    }
}
