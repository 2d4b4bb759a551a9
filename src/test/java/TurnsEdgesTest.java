import java.util.Arrays;

/** Promises 7 to 11 at their edges: what turns them. */
public final class TurnsEdgesTest {
    private static final int UNKNOWN = Edges.UNKNOWN, OUTSIDE = Edges.OUTSIDE, STATE = Edges.STATE;
    private static final int NONE = Edges.NONE;
    private static final int NULL = Edges.NULL, CAST = Edges.CAST, INDEX = Edges.INDEX;
    private static final int LEAST = Edges.LEAST, GREATEST = Edges.GREATEST;
    private static final int[] ASKED = {0, 1, 2, 3, 4, 10, 11, 12, 13, 14, 15, 16, 17};

    private final Due due = new Due("TurnsEdgesTest");
    private final Edges edges = new Edges(due);

    public static void main(String[] args) {
        TurnsEdgesTest test = new TurnsEdgesTest();
        test.refusalsOfTurn();
        test.turnsToEachWay();
        test.refusalsOfGust();
        test.gustsOfEachStrength();
        test.gustsPassFoldedOnes();
        test.rain();
        test.refusalsOfOpen();
        test.opensFromAllToNone();
        test.opensAsAhead();
        test.refusalsOfDay();
        test.twoRefusalsOfDay();
        test.faultsOfDay();
        test.twoFaultsOfDay();
        test.whereADayBegins();
        test.secondsOfPairs();
        test.firstsOfPairs();
        test.pairByPair();
        test.pairsAheadOfActs();
        test.daysOfNoPairs();
        test.daysOfTwentyPairs();
        test.gustsOfADay();
        test.rainOfADay();
        test.firstWrongAct();
        test.waysOfNoChair();
        test.fromHowAllIsNow();
        test.due.end();
    }

    private void refusalsOfTurn() {
        due.promise("7 turn");
        edges.on(Edges::four);
        edges.leavesEach("chair", Edges.beyond(0, 3), UNKNOWN, (x, k) -> x.turn(k, 0));
        edges.leavesEach("chair ahead of way", Edges.beyond(0, 3), UNKNOWN, (x, k) -> x.turn(k, 4));
        edges.leavesEach("way", Edges.beyond(0, 3), OUTSIDE, (x, way) -> x.turn(0, way));
        edges.leavesEach("way ahead of folded", Edges.beyond(0, 3), OUTSIDE, (x, way) -> x.turn(3, way));
        edges.leavesEach("a folded one", new int[] {0, 1, 2, 3}, STATE, (x, way) -> x.turn(3, way));
        edges.leaves("the way that it looks", 2, x -> x.turn(2, 2));
        edges.on(Edges::bare);
        edges.leaves("no front, ahead of way", UNKNOWN, x -> x.turn(0, 4));
        edges.on(Edges::eight);
        edges.leavesEach("chair of eight", Edges.beyond(0, 7), UNKNOWN, (x, k) -> x.turn(k, 0));
        edges.leaves("the last of eight, as it looks", 3, x -> x.turn(7, 3));
    }

    private void turnsToEachWay() {
        due.promise("7 turn");
        for (int from = 0; from < 4; from++) {
            for (int to = 0; to < 4; to++) {
                ChairBallot x = Beach.with("f;p010;s12" + from + ";b230");
                due.is("turned from " + from + " to " + to, x.turn(1, to), from);
                due.is("they look", Beach.looks(x), 10 * to);
            }
        }
    }

    private void refusalsOfGust() {
        due.promise("8 gust");
        edges.on(Edges::four);
        edges.leavesEach("way", Edges.beyond(0, 3), OUTSIDE, (x, way) -> x.gust(way, 10));
        edges.leavesEach("v", Edges.beyond(0, 10), OUTSIDE, (x, v) -> x.gust(0, v));
        edges.leavesEach("way and v", Edges.beyond(0, 10), OUTSIDE, (x, v) -> x.gust(4, v));
        edges.leavesEach("nothing", new int[] {0, 1, 2, 3}, 0, (x, way) -> x.gust(way, 0));
        edges.leavesEach("too little for the lightest", new int[] {0, 1, 2, 3}, 0, (x, way) -> x.gust(way, 3));
        edges.on(Edges::bare);
        edges.leavesEach("no front", new int[] {0, 1, 2, 3}, STATE, (x, way) -> x.gust(way, 0));
        edges.leavesEach("no front ahead of way", Edges.beyond(0, 3), STATE, (x, way) -> x.gust(way, 0));
        edges.leavesEach("no front ahead of v", Edges.beyond(0, 10), STATE, (x, v) -> x.gust(0, v));
    }

    private void gustsOfEachStrength() {
        due.promise("8 gust");
        for (int weight = 1; weight <= 9; weight++) {
            for (int v = 0; v <= 10; v++) {
                ChairBallot x = Beach.with("f;p0" + weight + "1;p090");
                boolean light = weight < v;
                boolean both = v == 10;
                due.is("weight " + weight + ", gust of " + v, x.gust(2, v), both ? 2 : light ? 1 : 0);
                due.is("they look", Beach.looks(x), both ? 22 : light ? 20 : 10);
            }
        }
        ChairBallot x = Beach.with("f" + ";p010;p011;p012;p013".repeat(2));
        for (int way = 0; way < 4; way++) {
            due.is("a gust to " + way + " of eight", x.gust(way, 2), way == 0 ? 6 : 8);
            due.is("the same once more", x.gust(way, 2), 0);
            due.is("they look", Beach.looks(x), way * 11111111);
        }
    }

    private void gustsPassFoldedOnes() {
        due.promise("8 gust");
        ChairBallot x = Edges.four();
        due.is("three that are not folded", x.gust(1, 10), 2);
        due.is("they look", Beach.looks(x), 1110);
        x.open(3);
        due.is("it looks as ahead of the gust", x.ofChair(3, 3), 0);
        due.is("it is turned, as it is opened", x.gust(1, 10), 1);
        x.rain();
        due.is("all are folded", x.gust(2, 10), 0);
        due.is("they look", Beach.looks(x), 1111);
        due.is("fault() is as it was", x.fault(), 2);
    }

    private void rain() {
        due.promise("9 rain");
        edges.on(Edges::bare);
        edges.leaves("no front", STATE, x -> x.rain());
        ChairBallot x = Edges.four();
        due.is("all but one", x.rain(), 3);
        due.is("who is folded", Beach.folded(x), 15);
        due.is("none", x.rain(), 0);
        due.is("who is folded", Beach.folded(x), 15);
        due.is("they look as ahead", Beach.looks(x), 1320);
        due.is("readings stay", x.many(3), 2);
        due.is("fault() is as it was", x.fault(), 2);
        ChairBallot two = Beach.with("f;p010;p010");
        due.is("two", two.rain(), 2);
        two.open(1);
        due.is("one", two.rain(), 1);
        ChairBallot eight = Edges.eight();
        due.is("eight", eight.rain(), 8);
        due.is("who is folded", Beach.folded(eight), 255);
        due.is("none is for or against", eight.poll(3) + eight.poll(4), 0);
        due.is("it is not carried", eight.poll(2), 0);
    }

    private void refusalsOfOpen() {
        due.promise("10 open");
        edges.on(Edges::four);
        edges.leavesEach("chair", Edges.beyond(0, 3), UNKNOWN, (x, k) -> x.open(k));
        edges.leavesEach("one that is not folded", new int[] {0, 1, 2}, STATE, (x, k) -> x.open(k));
        edges.on(Edges::bare);
        edges.leaves("no front", UNKNOWN, x -> x.open(0));
        edges.on(Edges::eight);
        edges.leavesEach("chair of eight", Edges.beyond(0, 7), UNKNOWN, (x, k) -> x.open(k));
        edges.leaves("the last of eight", STATE, x -> x.open(7));
    }

    private void opensFromAllToNone() {
        due.promise("10 open");
        ChairBallot x = Edges.eight();
        x.rain();
        int folded = 255;
        int[] order = {7, 0, 3, 5, 1, 6, 2, 4};
        for (int opened = 0; opened < 8; opened++) {
            folded &= ~(1 << order[opened]);
            due.is("opened " + order[opened], x.open(order[opened]), 7 - opened);
            due.is("who is folded", Beach.folded(x), folded);
            due.is("once more", x.open(order[opened]), STATE);
            due.is("how many are folded", x.many(1), 7 - opened);
        }
        due.is("fault() is as it was", x.fault(), 4);
    }

    private void opensAsAhead() {
        due.promise("10 open");
        ChairBallot x = Beach.with("f;p010;p011;p012;p013");
        x.rain();
        x.gust(1, 10);
        for (int k = 0; k < 4; k++) {
            due.is("a folded one is not turned", x.turn(k, 2), STATE);
            x.open(k);
            due.is("it looks as ahead", x.ofChair(k, 3), k);
        }
        x.turn(2, 1);
        x.rain();
        x.open(2);
        due.is("as it was turned ahead of the second rain", x.ofChair(2, 3), 1);
    }

    private void refusalsOfDay() {
        due.promise("11 day: refusals");
        edges.on(Edges::four);
        edges.refusesEach("sheet", Edges.beyond(0, 3), UNKNOWN, (x, k) -> x.day(k, 2, 0, 1, 0));
        edges.refusesEach("lane", Edges.beyond(0, 2), OUTSIDE, (x, lane) -> x.day(2, lane, 0, 1, 0));
        edges.refusesEach("n", Edges.beyond(0, 20), OUTSIDE, (x, n) -> x.day(2, 2, 0, n, 0));
        int[] wrapsWhenDoubled = {1 << 30, (1 << 30) + 1, 1 << 31, (1 << 31) + 2};
        edges.refusesEach("n that wraps", wrapsWhenDoubled, OUTSIDE, (x, n) -> x.day(2, 2, 0, n, 0));
        int[] others = {LEAST, -1, 5, 6, 7, 8, 9, 18, 20, GREATEST};
        edges.refusesEach("what", others, OUTSIDE, (x, what) -> x.day(2, 2, 0, 1, what));
        edges.on(Edges::bare);
        edges.refusesEach("no front", ASKED, STATE, (x, what) -> x.day(2, 2, 0, 1, what));
    }

    private void twoRefusalsOfDay() {
        due.promise("11 day: the first that is told");
        edges.on(Edges::bare);
        edges.refuses("no sheet, no lane", UNKNOWN, x -> x.day(4, 3, 0, 0, 0));
        edges.refuses("no sheet, n", UNKNOWN, x -> x.day(-1, 0, 0, 21, 0));
        edges.refuses("no sheet, what", UNKNOWN, x -> x.day(4, 0, 0, 0, 5));
        edges.refuses("no sheet, no front", UNKNOWN, x -> x.day(4, 0, 0, 0, 0));
        edges.refuses("no lane, no front", OUTSIDE, x -> x.day(2, 3, 0, 0, 0));
        edges.refuses("n, no front", OUTSIDE, x -> x.day(2, 2, 0, -1, 0));
        edges.refuses("what, no front", OUTSIDE, x -> x.day(2, 2, 0, 0, 9));
        edges.refuses("no front, cast", STATE, x -> x.day(2, 0, 0, 0, 0));
        edges.refuses("no front, nothing", STATE, x -> x.day(3, 0, 0, 0, 0));
        edges.refuses("no front, index", STATE, x -> x.day(2, 2, 0, 3, 0));
        edges.on(Edges::four);
        edges.refuses("no lane, nothing", OUTSIDE, x -> x.day(3, -1, 0, 0, 0));
        edges.refuses("n, cast", OUTSIDE, x -> x.day(2, 0, 0, 21, 0));
        edges.refuses("n, index", OUTSIDE, x -> x.day(2, 2, 5, -1, 0));
        edges.refuses("what, nothing", OUTSIDE, x -> x.day(3, 0, 0, 0, 18));
        edges.refuses("what, index", OUTSIDE, x -> x.day(2, 2, 0, 3, -1));
    }

    private void faultsOfDay() {
        due.promise("11 day: faults");
        edges.on(Edges::four);
        for (int k = 0; k < 3; k++) {
            for (int lane = 0; lane < 3; lane++) {
                int sheet = k;
                int as = lane;
                if (k != lane) {
                    edges.faults("sheet " + k + " as " + lane, CAST, x -> x.day(sheet, as, 0, 0, 0));
                }
            }
        }
        edges.faultsEach("nothing is no cast", new int[] {0, 1, 2}, NULL, (x, lane) -> x.day(3, lane, 0, 0, 0));
        edges.faultsEach("n", new int[] {3, 4, 20}, INDEX, (x, n) -> x.day(2, 2, 0, n, 0));
        edges.faultsEach("i", new int[] {LEAST, -1, 1, 4, 5, GREATEST}, INDEX, (x, i) -> x.day(2, 2, i, 2, 0));
        edges.faultsEach("i, n 0", Edges.beyond(0, 4), INDEX, (x, i) -> x.day(2, 2, i, 0, 0));
        edges.faultsEach("i, one pair", new int[] {-2, -1, 3, 4}, INDEX, (x, i) -> x.day(2, 2, i, 1, 0));
        edges.faultsEach("what", ASKED, INDEX, (x, what) -> x.day(2, 2, 0, 3, what));
        edges.faultsEach("what of nothing", ASKED, NULL, (x, what) -> x.day(3, 2, 0, 3, what));
    }

    private void twoFaultsOfDay() {
        due.promise("11 day: the first that is told");
        edges.on(Edges::four);
        edges.faults("cast, index", CAST, x -> x.day(2, 1, 5, 0, 0));
        edges.faults("cast, a pair that is no such", CAST, x -> x.day(1, 2, 0, 1, 0));
        edges.faults("nothing, index", NULL, x -> x.day(3, 1, -1, 0, 0));
        edges.faults("index, a pair that is no such", INDEX, x -> x.day(1, 1, 0, 11, 0));
        edges.refuses("a pair that is no such", OUTSIDE, x -> x.day(1, 1, 0, 10, 0));
    }

    private void whereADayBegins() {
        due.promise("11 day: from i on");
        for (int lane = 0; lane < 3; lane++) {
            ChairBallot x = Beach.with("f;p010;p090");
            int[] cells = new int[60];
            cells[58] = 1;
            cells[59] = 2;
            Beach.write(x, 0, lane, cells);
            due.is("twenty pairs from the first cell on", x.day(0, lane, 0, 20, 2), 0);
            due.is("twenty pairs to the last cell", x.day(0, lane, 20, 20, 2), 9);
            due.is("one cell on", x.day(0, lane, 21, 20, 2), INDEX);
            due.is("nineteen pairs from there on", x.day(0, lane, 21, 19, 2), 0);
            due.is("the last pair", x.day(0, lane, 58, 1, 2), 9);
            due.is("the pair ahead of it", x.day(0, lane, 56, 1, 2), 0);
            due.is("from the last cell on", x.day(0, lane, 59, 1, 2), INDEX);
            due.is("none from the end on", x.day(0, lane, 60, 0, 0), 10);
            due.is("none from behind the end on", x.day(0, lane, 61, 0, 0), INDEX);
            x.sheet(0, lane, 0);
            due.is("none of no cells", x.day(0, lane, 0, 0, 0), 10);
            due.is("one of no cells", x.day(0, lane, 0, 1, 0), INDEX);
            x.sheet(0, lane, 5);
            due.is("two of five cells", x.day(0, lane, 0, 2, 0), 10);
            due.is("three of five cells", x.day(0, lane, 0, 3, 0), INDEX);
            due.is("two of five cells, from 1 on", x.day(0, lane, 1, 2, 0), 10);
            due.is("two of five cells, from 2 on", x.day(0, lane, 2, 2, 0), INDEX);
        }
    }

    private static ChairBallot told(int... cells) {
        ChairBallot x = Edges.four();
        Beach.write(x, 2, Beach.INTS, cells);
        x.put(2, 99, 0);
        return x;
    }

    /** There is such a pair among them that all of the day is refused, whatever is asked. */
    private void pair(long answer, int... cells) {
        edges.on(() -> told(cells));
        String day = "day of " + Arrays.toString(cells) + ", what ";
        for (int what : ASKED) {
            edges.refuses(day + what, answer, x -> x.day(2, 2, 0, cells.length / 2, what));
        }
    }

    private void secondsOfPairs() {
        due.promise("11 day: pairs");
        for (int second : Edges.beyond(0, 9)) {
            pair(OUTSIDE, 0, second);
            pair(OUTSIDE, 4, second);
            pair(OUTSIDE, -1, second);
        }
        ChairBallot x = Edges.four();
        int[] first = {0, 0, 0, 0, 0, 0, 0, 0, 0, 3};
        for (int second = 0; second <= 9; second++) {
            due.is("second " + second, Beach.day(x, 1, first[second], second), NONE);
            due.is("fault()", x.fault(), 0);
        }
    }

    private void firstsOfPairs() {
        due.promise("11 day: pairs");
        for (int second = 4; second <= 7; second++) {
            for (int first : Edges.beyond(0, 10)) {
                pair(OUTSIDE, first, second);
            }
            due.is("a gust of 0", Beach.day(Edges.four(), 1, 0, second), NONE);
            due.is("a gust of 10", Beach.day(Edges.four(), 1, 10, second), NONE);
        }
        for (int first : Edges.beyond(0, 0)) {
            pair(OUTSIDE, first, 8);
        }
        for (int second : new int[] {0, 1, 2, 3, 9}) {
            for (int first : Edges.beyond(0, 3)) {
                pair(UNKNOWN, first, second);
            }
            due.is("the first chair", Beach.day(Edges.four(), 1, 0, second), second == 9 ? 0 : NONE);
            due.is("the last chair", Beach.day(Edges.four(), 1, 3, second), second == 9 ? NONE : 0);
        }
    }

    private void pairByPair() {
        due.promise("11 day: pair by pair");
        pair(UNKNOWN, 4, 0, 0, 10);
        pair(OUTSIDE, 0, 10, 4, 0);
        pair(OUTSIDE, 0, 0, 11, 4, 4, 9);
        pair(UNKNOWN, 0, 0, 4, 9, 11, 4);
        pair(OUTSIDE, 1, 8, -1, 3);
        pair(UNKNOWN, -1, 3, 1, 8);
        int[] last = new int[40];
        last[38] = 4;
        pair(UNKNOWN, last);
        last[39] = 10;
        pair(OUTSIDE, last);
    }

    private void pairsAheadOfActs() {
        due.promise("11 day: pairs ahead of any act");
        pair(OUTSIDE, 0, 9, 0, 10);
        pair(UNKNOWN, 0, 9, 4, 0);
        pair(OUTSIDE, 3, 0, 11, 7);
        pair(OUTSIDE, 0, 8, 0, 0, 1, 8);
        edges.on(() -> told(0, 9, 0, 10));
        edges.refuses("pairs behind the last one told", -100, x -> x.day(2, 2, 0, 1, 0));
        edges.refuses("the pair behind it, told alone", OUTSIDE, x -> x.day(2, 2, 2, 1, 0));
        edges.on(() -> told(0, 10, 0, 2, 4, 0));
        edges.refuses("pairs on both sides of the one told", 8, x -> x.day(2, 2, 2, 1, 2));
        edges.refuses("the pair ahead of it, too", OUTSIDE, x -> x.day(2, 2, 0, 2, 2));
        edges.refuses("the pair behind it, too", UNKNOWN, x -> x.day(2, 2, 2, 2, 2));
    }

    private void daysOfNoPairs() {
        due.promise("11 day: no pairs");
        int[] answers = {9, NONE, 3, 8, 0, 1, 3, 2, 0, NONE, NONE, NONE, NONE};
        edges.on(Edges::four);
        for (int a = 0; a < ASKED.length; a++) {
            int what = ASKED[a];
            edges.refuses("what " + what, answers[a], x -> x.day(2, 2, 0, 0, what));
            edges.refuses("from the end on, what " + what, answers[a], x -> x.day(2, 2, 4, 0, what));
        }
    }

    private void daysOfTwentyPairs() {
        due.promise("11 day: twenty pairs");
        int[] cells = new int[40];
        edges.on(() -> told(cells));
        edges.refuses("carried behind none", 0, x -> x.day(2, 2, 0, 0, 4));
        edges.refuses("carried behind each", 20, x -> x.day(2, 2, 0, 20, 4));
        edges.refuses("carried behind nineteen", 19, x -> x.day(2, 2, 0, 19, 4));
        for (int pair = 0; pair < 20; pair++) {
            cells[2 * pair + 1] = pair % 2 == 0 ? 2 : 0;
        }
        edges.on(() -> told(cells));
        edges.refuses("carried behind each second one", 10, x -> x.day(2, 2, 0, 20, 4));
        edges.refuses("the last one turned it", 0, x -> x.day(2, 2, 0, 20, 10));
        edges.refuses("the last but one turned it", 2, x -> x.day(2, 2, 0, 19, 10));
        cells[39] = 9;
        edges.on(() -> told(cells));
        edges.refuses("the last one can't be", -119, x -> x.day(2, 2, 0, 20, 0));
        edges.refuses("the last one can't be", 19, x -> x.day(2, 2, 0, 20, 1));
        edges.refuses("all but the last one", NONE, x -> x.day(2, 2, 0, 19, 1));
    }

    private void gustsOfADay() {
        due.promise("11 day: gusts");
        String text = "f;p010;s051;b092;p013";
        for (int way = 0; way < 4; way++) {
            ChairBallot x = Beach.with(text);
            x.rain();
            x.open(0);
            x.open(1);
            x.open(2);
            due.is("of as much as it weighs", Beach.day(x, 11, 5, 4 + way), 1);
            due.is("of more than it weighs", Beach.day(x, 11, 6, 4 + way), way);
            due.is("of as much as the heaviest weighs", Beach.day(x, 12, 9, 4 + way), 2);
            due.is("of more than the heaviest weighs", Beach.day(x, 12, 10, 4 + way), way);
            due.is("of as much as the lightest weighs", Beach.day(x, 10, 1, 4 + way), 0);
            due.is("of more than the lightest weighs", Beach.day(x, 10, 2, 4 + way), way);
            due.is("a folded one is not turned", Beach.day(x, 13, 10, 4 + way), 3);
            due.is("if it is opened first", Beach.day(x, 13, 3, 9, 10, 4 + way), way);
        }
    }

    private void rainOfADay() {
        due.promise("11 day: rain");
        ChairBallot x = Edges.eight();
        due.is("all are folded", Beach.day(x, 3, 0, 8), 255);
        due.is("all but the last one", Beach.day(x, 3, 0, 8, 7, 9), 127);
        due.is("all but the first one", Beach.day(x, 3, 0, 8, 0, 9), 254);
        due.is("twice", Beach.day(x, 3, 0, 8, 7, 9, 0, 8), 255);
        due.is("an opened one looks as ahead", Beach.day(x, 17, 0, 8, 10, 4, 7, 9), 3);
        due.is("an opened one is for again", Beach.day(x, 0, 0, 8, 0, 9), 1);
        due.is("none is against", Beach.day(x, 2, 0, 8), 0);
        due.is("a folded one looks as ahead", Beach.day(x, 13, 0, 8), 3);
        due.is("a folded one is not turned", Beach.day(x, 13, 0, 8, 3, 0), -101);
        due.is("who is folded now", Beach.folded(x), 0);
        x.rain();
        due.is("rain on those who are folded", Beach.day(x, 3, 0, 8), 255);
        due.is("nothing is against rain", Beach.day(x, 1, 0, 8, 0, 8, 0, 8), NONE);
    }

    private void firstWrongAct() {
        due.promise("11 day: first wrong");
        wrongAtTheLast(0, 9);
        wrongAtTheLast(3, 0);
        wrongAtTheLast(3, 1);
        wrongAtTheLast(3, 2);
        wrongAtTheLast(3, 3);
        wrongAtTheLast(3, 9, 3, 9);
        wrongAtTheLast(3, 9, 0, 8, 3, 0);
        wrongAtTheLast(0, 8, 0, 0);
        wrongAtTheLast(0, 0, 10, 5, 0, 8, 2, 9, 2, 9);
        wrongAtTheLast(0, 0, 10, 5, 0, 8, 2, 9, 1, 3);
        edges.on(() -> told(3, 0, 0, 9));
        edges.refuses("the first of two", 0, x -> x.day(2, 2, 0, 2, 1));
        edges.refuses("the first of two", -100, x -> x.day(2, 2, 0, 2, 4));
        edges.refuses("the second one, from there on", 0, x -> x.day(2, 2, 2, 1, 1));
    }

    /** The last of the pairs can't be, and all ahead of it can. */
    private void wrongAtTheLast(int... cells) {
        edges.on(() -> told(cells));
        int pair = cells.length / 2 - 1;
        String day = "day of " + Arrays.toString(cells) + ", what ";
        for (int what : ASKED) {
            edges.refuses(day + what, what == 1 ? pair : -100 - pair, x -> x.day(2, 2, 0, pair + 1, what));
        }
    }

    private void waysOfNoChair() {
        due.promise("11 day: the way of no such chair");
        ChairBallot two = Beach.with("f;p012;p013");
        ChairBallot eight = Edges.eight();
        for (int k = 0; k < 8; k++) {
            due.is("of two, chair " + k, Beach.day(two, 10 + k, 0, 1), k == 0 ? 1 : k == 1 ? 3 : NONE);
            due.is("fault()", two.fault(), 0);
            due.is("of two, a wrong day, chair " + k, Beach.day(two, 10 + k, 0, 9), -100);
            due.is("of eight, chair " + k, Beach.day(eight, 10 + k, k, 3 - k % 4), 3 - k % 4);
        }
        due.is("of eight, chair 8", Beach.day(eight, 18, 0, 1), OUTSIDE);
    }

    private void fromHowAllIsNow() {
        due.promise("11 day: from how all is now");
        ChairBallot x = Edges.four();
        due.is("turned", Beach.day(x, 10, 0, 2), 2);
        due.is("the next day does not know of it", Beach.day(x, 10), 1);
        x.turn(0, 3);
        due.is("but of what was turned in truth", Beach.day(x, 10), 3);
        x.load(1, 9);
        due.is("of what was loaded", Beach.day(x, 2, 1, 2), 13);
        x.paint(0, 0);
        due.is("of what was painted", Beach.day(x, 2, 0, 1), 18);
        x.open(3);
        due.is("of what was opened", Beach.day(x, 3), 0);
        x.rain();
        due.is("of what was folded", Beach.day(x, 3), 15);
        Beach.front(x, "f;p010;p020");
        due.is("of a new front", Beach.day(x, 0), 3);
        due.is("who is folded then", Beach.day(x, 3), 0);
    }
}
