/** Promises 16 to 20 at their edges: what they counted. */
public final class CountedEdgesTest {
    private static final int UNKNOWN = Edges.UNKNOWN, OUTSIDE = Edges.OUTSIDE, FULL = Edges.FULL;
    private static final long LOST = Edges.LOST;
    private static final int ALL_WEIGHTS = 1022, ALL_KINDS = 7;

    private final Due due = new Due("CountedEdgesTest");
    private final Edges edges = new Edges(due);

    public static void main(String[] args) {
        CountedEdgesTest test = new CountedEdgesTest();
        test.refusalsOfReading();
        test.numbersOfReadings();
        test.refusalsOfBack();
        test.takenBackFromTheLast();
        test.refusalsOfWeightsAndKinds();
        test.noReadings();
        test.weightsByEachReading();
        test.kindsByEachReading();
        test.severalReadingsOfOne();
        test.readingsOfOthers();
        test.inPlaceOfWhatItIsAlone();
        test.asItWasNotFolded();
        test.refusalsOfOdds();
        test.oddsWithFoldedOnes();
        test.oddsOfHalf();
        test.oddsInLeastTerms();
        test.oddsWhateverTheyLook();
        test.due.end();
    }

    private void refusalsOfReading() {
        due.promise("16 reading");
        edges.on(Edges::bare);
        edges.leaves("no front, ahead of v", UNKNOWN, x -> x.reading(0, 11));
        edges.on(Edges::four);
        edges.leavesEach("chair", Edges.beyond(0, 3), UNKNOWN, (x, k) -> x.reading(k, 0));
        edges.leavesEach("chair ahead of v", Edges.beyond(0, 3), UNKNOWN, (x, k) -> x.reading(k, -1));
        edges.leavesEach("v", Edges.beyond(0, 10), OUTSIDE, (x, v) -> x.reading(0, v));
        edges.on(Edges::eight);
        int[] all = {0, 1, 2, 3, 4, 5, 6, 7};
        edges.leavesEach("full", all, FULL, (x, k) -> x.reading(k, 0));
        edges.leavesEach("full", new int[] {0, 10}, FULL, (x, v) -> x.reading(0, v));
        edges.leavesEach("chair ahead of full", Edges.beyond(0, 7), UNKNOWN, (x, k) -> x.reading(k, 0));
        edges.leavesEach("v ahead of full", Edges.beyond(0, 10), OUTSIDE, (x, v) -> x.reading(0, v));
        edges.leavesEach("all three", Edges.beyond(0, 7), UNKNOWN, (x, k) -> x.reading(k, 11));
    }

    private void numbersOfReadings() {
        due.promise("16 reading");
        ChairBallot x = Edges.eight();
        due.is("eight", x.many(3), 8);
        x.back(1);
        due.is("the last but one is the last", x.reading(0, 0), 7);
        due.is("a ninth", x.reading(0, 0), FULL);
        x.back(8);
        for (int v = 0; v <= 10; v++) {
            due.is("of " + v, x.reading(7, v), 0);
            due.is("how many", x.many(3), 1);
            due.is("how many are left", x.back(1), 0);
        }
        for (int r = 0; r < 8; r++) {
            due.is("the same once more", x.reading(3, 4), r);
        }
        due.is("fault() is as it was", x.fault(), 4);
        Beach.front(x, "f;p010;p020");
        due.is("none with a new front", x.many(3), 0);
        due.is("the first one of a new front", x.reading(1, 2), 0);
    }

    private void refusalsOfBack() {
        due.promise("17 back");
        edges.on(Edges::bare);
        edges.leaves("none of none", 0, x -> x.back(0));
        edges.leavesEach("k of none", Edges.beyond(0, 0), OUTSIDE, (x, k) -> x.back(k));
        edges.on(Edges::four);
        edges.leaves("none of two", 2, x -> x.back(0));
        edges.leavesEach("k of two", Edges.beyond(0, 2), OUTSIDE, (x, k) -> x.back(k));
        edges.on(Edges::eight);
        edges.leaves("none of eight", 8, x -> x.back(0));
        edges.leavesEach("k of eight", Edges.beyond(0, 8), OUTSIDE, (x, k) -> x.back(k));
    }

    private void takenBackFromTheLast() {
        due.promise("17 back");
        for (int k = 0; k <= 8; k++) {
            ChairBallot x = Edges.eight();
            due.is("back(" + k + ")", x.back(k), 8 - k);
            due.is("how many", x.many(3), 8 - k);
            due.is("one more than there are", x.back(9 - k), OUTSIDE);
            for (int chair = 0; chair < 8; chair++) {
                boolean read = chair < 8 - k;
                due.is("back(" + k + "), chair " + chair + " is read", x.weights(chair) != ALL_WEIGHTS ? 1 : 0,
                        read ? 1 : 0);
            }
            due.is("the next one's number", x.reading(0, 1), k == 0 ? FULL : 8 - k);
            due.is("fault() is as it was", x.fault(), 4);
        }
    }

    private void refusalsOfWeightsAndKinds() {
        due.promise("18 weights, 19 kinds");
        edges.on(Edges::bare);
        edges.leaves("weights, no front", UNKNOWN, x -> x.weights(0));
        edges.leaves("kinds, no front", UNKNOWN, x -> x.kinds(0));
        edges.on(Edges::four);
        edges.leavesEach("weights, chair", Edges.beyond(0, 3), UNKNOWN, (x, k) -> x.weights(k));
        edges.leavesEach("kinds, chair", Edges.beyond(0, 3), UNKNOWN, (x, k) -> x.kinds(k));
        edges.leaves("weights of the first", 1 << 5, x -> x.weights(0));
        edges.leaves("kinds of the first", 1, x -> x.kinds(0));
        edges.leaves("weights of one that is folded and not read", ALL_WEIGHTS, x -> x.weights(3));
        edges.leaves("kinds of one that is folded and not read", ALL_KINDS, x -> x.kinds(3));
        edges.on(Edges::eight);
        edges.leavesEach("weights, chair of eight", Edges.beyond(0, 7), UNKNOWN, (x, k) -> x.weights(k));
        edges.leavesEach("kinds, chair of eight", Edges.beyond(0, 7), UNKNOWN, (x, k) -> x.kinds(k));
        edges.leaves("weights of the last of eight", 1 << 8, x -> x.weights(7));
        edges.leaves("kinds of the last of eight", 2, x -> x.kinds(7));
    }

    private void noReadings() {
        due.promise("18 weights, 19 kinds");
        ChairBallot x = Edges.eight();
        x.back(8);
        for (int k = 0; k < 8; k++) {
            due.is("weights(" + k + ")", x.weights(k), ALL_WEIGHTS);
            due.is("kinds(" + k + ")", x.kinds(k), ALL_KINDS);
        }
    }

    /** What a chair of a kind and a weight counts. */
    private static int votes(int kind, int weight) {
        return new int[][] {{0, 1, 2, 3, 4, 5, 6, 7, 8, 9}, {0, 2, 3, 4, 5, 6, 7, 8, 9, 10},
            {0, 1, 1, 2, 2, 3, 3, 4, 4, 5}}[kind][weight];
    }

    private void weightsByEachReading() {
        due.promise("18 weights");
        ChairBallot x = Beach.with("f;p050;s050;b050");
        for (int k = 0; k < 3; k++) {
            for (int v = 0; v <= 10; v++) {
                int set = 0;
                for (int weight = 1; weight <= 9; weight++) {
                    set |= votes(k, weight) == v ? 1 << weight : 0;
                }
                x.reading(k, v);
                due.is("kind " + k + " by " + v, x.weights(k), set);
                x.back(1);
            }
        }
        x.reading(2, 0);
        due.is("none counts nothing", x.weights(2), 0);
        x.back(1);
        x.reading(2, 1);
        due.is("the lightest ones, cut", x.weights(2), 1 << 1 | 1 << 2);
        x.back(1);
        x.reading(2, 5);
        due.is("the heaviest one, cut", x.weights(2), 1 << 9);
        x.back(1);
        x.reading(1, 10);
        due.is("the heaviest one", x.weights(1), 1 << 9);
        x.back(1);
        x.reading(0, 10);
        due.is("none is so heavy", x.weights(0), 0);
    }

    private void kindsByEachReading() {
        due.promise("19 kinds");
        for (int k = 0; k < 3; k++) {
            ChairBallot x = Beach.with("f;p050;s050;b050");
            for (int weight = 1; weight <= 9; weight++) {
                x.load(k, weight);
                for (int v = 0; v <= 10; v++) {
                    int set = 0;
                    for (int kind = 0; kind < 3; kind++) {
                        set |= votes(kind, weight) == v ? 1 << kind : 0;
                    }
                    x.reading(k, v);
                    due.is("weight " + weight + " by " + v, x.kinds(k), set);
                    x.back(1);
                }
            }
        }
        ChairBallot x = Beach.with("f;p010;p020");
        x.reading(0, 1);
        due.is("plain or broken", x.kinds(0), 5);
    }

    private void severalReadingsOfOne() {
        due.promise("18 weights, 19 kinds: all readings");
        ChairBallot x = Beach.with("f;p050;b030");
        for (int r = 0; r < 8; r++) {
            x.reading(1, 2);
        }
        due.is("eight that are alike", x.weights(1), 1 << 3 | 1 << 4);
        due.is("eight that are alike", x.kinds(1), 4);
        x.back(1);
        x.reading(1, 3);
        due.is("the last one is not", x.weights(1), 0);
        due.is("the last one is not", x.kinds(1), 0);
        x.back(8);
        x.reading(1, 3);
        x.reading(1, 2);
        due.is("the first one is not", x.weights(1), 0);
        due.is("the first one is not", x.kinds(1), 0);
    }

    private void readingsOfOthers() {
        due.promise("18 weights, 19 kinds: all readings");
        ChairBallot x = Edges.eight();
        for (int k = 0; k < 8; k++) {
            due.is("all are so: weight " + k, x.weights(k) >> x.ofChair(k, 2) & 1, 1);
            due.is("all are so: kind " + k, x.kinds(k) >> x.ofChair(k, 0) & 1, 1);
        }
        x.back(1);
        x.reading(7, 1);
        for (int k = 0; k < 8; k++) {
            due.is("that of the last is not: weights of " + k, x.weights(k), 0);
            due.is("that of the last is not: kinds of " + k, x.kinds(k), 0);
        }
        x.back(1);
        x.reading(7, 2);
        for (int k = 0; k < 8; k++) {
            due.is("but with another weight: " + k, x.weights(k), k == 7 ? 1 << 1 : 0);
            due.is("but with another weight, kinds: " + k, x.kinds(k), 0);
        }
    }

    private void inPlaceOfWhatItIsAlone() {
        due.promise("18 weights, 19 kinds: in place of what it is alone");
        ChairBallot x = Beach.with("f;s050;b090;p010");
        x.reading(0, 3);
        due.is("its kind stays", x.weights(0), 1 << 2);
        due.is("its weight stays", x.kinds(0), 4);
        x.load(0, 2);
        due.is("as it is loaded", x.weights(1), ALL_WEIGHTS);
        due.is("as it is loaded", x.kinds(0), 2);
        x.reading(1, 9);
        due.is("of one that is not so now: weights", x.weights(1), 0);
        due.is("of one that is not so now: kinds", x.kinds(1), 1);
        due.is("the others are not so, with it as it is", x.weights(0), 0);
        due.is("nor is a third, that is not read", x.weights(2), 0);
        x.paint(1, 3);
        x.turn(1, 2);
        due.is("stripe and way are nothing to it", x.kinds(1), 1);
    }

    private void asItWasNotFolded() {
        due.promise("18 weights, 19 kinds: as it was not folded");
        ChairBallot x = Edges.eight();
        String seen = "";
        for (int k = 0; k < 8; k++) {
            seen += x.weights(k) + "/" + x.kinds(k) + " ";
        }
        x.rain();
        String folded = "";
        for (int k = 0; k < 8; k++) {
            folded += x.weights(k) + "/" + x.kinds(k) + " ";
        }
        due.same("all are folded", folded, seen);
        x.back(8);
        due.is("a reading of a folded one", x.reading(0, 0), 0);
        due.is("it had none, as it was not folded", x.weights(0), 0);
        x.back(1);
        x.reading(0, 1);
        due.is("it had one, as it was not folded", x.weights(0), 1 << 1);
        due.is("another, folded, too", x.weights(1), ALL_WEIGHTS);
    }

    private void odds(ChairBallot x, int k, long upper, long lower) {
        due.is("odds(" + k + ", 0)", x.odds(k, 0), upper);
        due.is("odds(" + k + ", 1)", x.odds(k, 1), lower);
    }

    private void refusalsOfOdds() {
        due.promise("20 odds");
        edges.on(Edges::bare);
        edges.leavesEach("no front", new int[] {-1, 0, -2}, LOST, (x, k) -> x.odds(k, 0));
        edges.leavesEach("no front, which", Edges.beyond(0, 1), LOST, (x, which) -> x.odds(-1, which));
        edges.on(Edges::four);
        edges.leavesEach("chair", Edges.beyond(-1, 3), LOST, (x, k) -> x.odds(k, 0));
        edges.leavesEach("which of all", Edges.beyond(0, 1), LOST, (x, which) -> x.odds(-1, which));
        edges.leavesEach("which of one", Edges.beyond(0, 1), LOST, (x, which) -> x.odds(0, which));
        edges.leavesEach("a folded one", new int[] {-1, 0, 1, 2}, LOST, (x, which) -> x.odds(3, which));
        edges.leaves("of all", 1, x -> x.odds(-1, 0));
        edges.leaves("of all", 2, x -> x.odds(-1, 1));
        edges.leaves("of one", 2, x -> x.odds(0, 1));
        edges.on(Edges::eight);
        edges.leavesEach("chair of eight", Edges.beyond(-1, 7), LOST, (x, k) -> x.odds(k, 1));
    }

    private void oddsWithFoldedOnes() {
        due.promise("20 odds: of those that are not folded");
        ChairBallot x = Beach.with("f" + ";s090".repeat(8));
        x.rain();
        odds(x, -1, 0, 1);
        for (int k = 0; k < 8; k++) {
            odds(x, k, LOST, LOST);
        }
        int[][] all = {{1, 2}, {1, 4}, {1, 2}, {5, 16}, {1, 2}, {11, 32}, {1, 2}, {93, 256}};
        int[][] each = {{1, 1}, {1, 2}, {1, 2}, {3, 8}, {3, 8}, {5, 16}, {5, 16}, {35, 128}};
        for (int k = 7; k >= 0; k--) {
            x.open(k);
            odds(x, -1, all[7 - k][0], all[7 - k][1]);
            odds(x, 7, each[7 - k][0], each[7 - k][1]);
            odds(x, k, each[7 - k][0], each[7 - k][1]);
        }
    }

    private void oddsOfHalf() {
        due.promise("20 odds: carried by more, not by as many");
        ChairBallot x = Beach.with("f;p010;p010");
        odds(x, -1, 1, 4);
        odds(x, 0, 1, 2);
        odds(x, 1, 1, 2);
        ChairBallot y = Beach.with("f;p030;p020;p010");
        odds(y, -1, 3, 8);
        odds(y, 0, 3, 4);
        odds(y, 1, 1, 4);
        odds(y, 2, 1, 4);
        ChairBallot z = Beach.with("f;p090;p010;p010;p010");
        odds(z, -1, 1, 2);
        odds(z, 0, 1, 1);
        odds(z, 1, 0, 1);
    }

    private void oddsInLeastTerms() {
        due.promise("20 odds: least terms");
        odds(Beach.with("f;p090" + ";p010".repeat(7)), -1, 1, 2);
        odds(Beach.with("f;p090" + ";p010".repeat(7)), 0, 1, 1);
        odds(Beach.with("f;p090" + ";p010".repeat(7)), 7, 0, 1);
        odds(Beach.with("f;p070" + ";p010".repeat(7)), -1, 127, 256);
        odds(Beach.with("f;p070" + ";p010".repeat(7)), 0, 127, 128);
        odds(Beach.with("f;p070" + ";p010".repeat(7)), 7, 1, 128);
        odds(Beach.with("f;p010;p020;p040;p080"), -1, 1, 2);
        odds(Beach.with("f;p010;p020;p040;p080"), 3, 1, 1);
    }

    private void oddsWhateverTheyLook() {
        due.promise("20 odds: whatever they look");
        for (int way = 0; way < 4; way++) {
            odds(Beach.with("f;p03" + way + ";p12" + way + ";p01" + way), -1, 3, 8);
            odds(Beach.with("f;p03" + way + ";p12" + way + ";p01" + way), 0, 3, 4);
        }
        odds(Beach.with("f;p031;p123;p011"), -1, 3, 8);
        odds(Beach.with("f;s031;b193"), -1, 1, 2);
        odds(Beach.with("f;s031;b193"), 0, 0, 1);
        odds(Beach.with("f;s031;b193"), 1, 1, 1);
    }
}
