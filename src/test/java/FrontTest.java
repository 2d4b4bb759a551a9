/** Promises 1 to 6: the front. */
public final class FrontTest {
    private static final int UNKNOWN = -1, OUTSIDE = -2, STATE = -3, NONE = -9;
    private static final int NULL = -11, CAST = -12, INDEX = -13, SIZE = -14;
    private static final long LOST = Long.MIN_VALUE;
    private static final String THREE = "f;p151;s133;b262";

    private final Due due = new Due("FrontTest");

    public static void main(String[] args) {
        FrontTest test = new FrontTest();
        test.aNewObject();
        test.aTextThatIsTaken();
        test.firstFaults();
        test.refusalsOfFront();
        test.aTextMakesAllAnew();
        test.ofChair();
        test.votesOfKinds();
        test.howOneCounts();
        test.paint();
        test.load();
        test.poll();
        test.due.end();
    }

    private void aNewObject() {
        due.promise("1 a new object");
        ChairBallot x = new ChairBallot();
        for (int what = 0; what <= 3; what++) {
            due.is("many(" + what + ")", x.many(what), 0);
        }
        due.is("ofChair(0, 0)", x.ofChair(0, 0), UNKNOWN);
        due.is("poll(0)", x.poll(0), STATE);
        due.is("trace()", x.trace(), 0);
        due.is("fault()", x.fault(), 0);
        for (int k = 0; k < 4; k++) {
            due.is("cell(" + k + ", 0, 0)", x.cell(k, 0, 0), LOST);
            due.is("fault()", x.fault(), 1);
            due.is("lose(" + k + ")", x.lose(k), 0);
        }
    }

    private void aTextThatIsTaken() {
        due.promise("2 front");
        for (int lane = 0; lane < 3; lane++) {
            ChairBallot x = new ChairBallot();
            Beach.write(x, 3, lane, "x" + THREE + ";");
            due.is("front", x.front(3, lane, 1, THREE.length()), 3);
            due.is("fault", x.fault(), 0);
            due.is("looks", Beach.looks(x), 132);
            due.is("the same with a code too many", x.front(3, lane, 1, THREE.length() + 1), -117);
        }
        ChairBallot x = new ChairBallot();
        due.is("two chairs", Beach.front(x, "f;p010;p393"), 2);
        due.is("eight chairs", Beach.front(x, "f" + ";b091".repeat(8)), 8);
        due.is("all digits", Beach.front(x, "f;p010;s121;b232;p343;s050;b161;p272;s383"), 8);
        for (int k = 0; k < 8; k++) {
            due.is("kind of " + k, x.ofChair(k, 0), k % 3);
            due.is("stripe of " + k, x.ofChair(k, 1), k % 4);
            due.is("weight of " + k, x.ofChair(k, 2), k + 1);
            due.is("look of " + k, x.ofChair(k, 3), k % 4);
        }
        due.is("nine as a weight", Beach.front(x, "f;p010;p090"), 2);
    }

    private void firstFaults() {
        due.promise("2 front: first fault");
        String eight = "f" + ";p010".repeat(8);
        String[] texts = {"", "g", "f", "f:", "f;", "f;q", "f;p", "f;p4", "f;p/", "f;p0", "f;p00", "f;p0:", "f;p01",
            "f;p014", "f;p01/", "f;p010", "f;p010:", "f;p010p", "f;p010;", "f;p010;s", "f;p010;s3", "f;p010;s39",
            "f;p010;s394", "f;p010;s393f", "f;p010;s393;", "f;p010;s393;b", eight + ";", eight + ";p010", eight + "f",
            "F;p010;p010", "f;P010;p010", "ff;p010;p010", ";p010;p010"};
        int[] places = {0, 0, 1, 1, 2, 2, 3, 3, 3, 4, 4, 4, 5, 5, 5, 6, 6, 6, 7, 8, 9, 10, 10, 11, 12, 13, 41, 41, 41,
            0, 2, 1, 0};
        due.is("as many places as texts", places.length, texts.length);
        for (int t = 0; t < texts.length; t++) {
            ChairBallot x = new ChairBallot();
            due.is("front of " + texts[t], Beach.front(x, texts[t]), -100 - places[t]);
            due.is("fault of " + texts[t], x.fault(), 0);
            due.is("chairs of " + texts[t], x.many(0), 0);
        }
        ChairBallot x = new ChairBallot();
        Beach.write(x, 0, Beach.INTS, 'f', ';', 'p', '0', '1', '0', ';', 'p', '0', '1' + 65536, '0');
        due.is("a code beyond all characters", x.front(0, Beach.INTS, 0, 11), -109);
        Beach.write(x, 0, Beach.INTS, -154, ';');
        due.is("a code below 0", x.front(0, Beach.INTS, 0, 2), -100);
    }

    private void refusalsOfFront() {
        due.promise("2 front: refusals and faults");
        ChairBallot x = Beach.with(THREE);
        due.is("no such sheet, lane", x.front(-1, 3, 0, -1), UNKNOWN);
        due.is("no such sheet", x.front(4, 1, 0, 16), UNKNOWN);
        due.is("no such lane, size", x.front(1, 3, 99, -1), OUTSIDE);
        due.is("no such lane", x.front(1, -1, 0, 16), OUTSIDE);
        due.is("no such lane, nothing", x.front(0, 3, 0, 16), OUTSIDE);
        due.is("fault of a refused one", x.fault(), 0);
        due.is("another lane ahead of size", x.front(1, 0, 0, -1), CAST);
        due.is("fault", x.fault(), 2);
        due.is("another lane", x.front(1, 2, 0, 16), CAST);
        due.is("nothing ahead of size", x.front(0, 2, 0, -1), NULL);
        due.is("fault", x.fault(), 1);
        due.is("a refused one behind a fault", x.front(4, 0, 0, 0), UNKNOWN);
        due.is("fault of a refused one", x.fault(), 0);
        due.is("size ahead of index", x.front(1, 1, 99, -1), SIZE);
        due.is("fault", x.fault(), 4);
        due.is("the least size", x.front(1, 1, 0, Integer.MIN_VALUE), SIZE);
        due.is("one cell too many", x.front(1, 1, 0, 17), INDEX);
        due.is("fault", x.fault(), 3);
        due.is("from below 0", x.front(1, 1, -1, 1), INDEX);
        due.is("from behind the end, none taken", x.front(1, 1, 17, 0), INDEX);
        due.is("from below 0, none taken", x.front(1, 1, -1, 0), INDEX);
        due.is("from the end, none taken", x.front(1, 1, 16, 0), -100);
        due.is("a sum that wraps", x.front(1, 1, Integer.MAX_VALUE, Integer.MAX_VALUE), INDEX);
        due.is("a sum that wraps", x.front(1, 1, 1, Integer.MAX_VALUE), INDEX);
        due.is("chairs are as they were", x.many(0), 3);
        due.is("looks are as they were", Beach.looks(x), 132);
    }

    private void aTextMakesAllAnew() {
        due.promise("2 front: all anew");
        ChairBallot x = Beach.with("f" + ";p010".repeat(8));
        x.rain();
        x.reading(0, 5);
        x.tell(0);
        due.is("front", Beach.front(x, THREE), 3);
        due.is("chairs", x.many(0), 3);
        due.is("folded", x.many(1), 0);
        due.is("folded", Beach.folded(x), 0);
        due.is("readings", x.many(3), 0);
        due.is("weights", x.weights(0), 1022);
        due.is("trace stays", x.trace(), 1);
        due.is("sheets stay", x.cell(1, 2, 1), 'p');
        due.is("there is no fourth chair", x.ofChair(3, 0), UNKNOWN);
        x.rain();
        x.reading(0, 5);
        due.is("a fault", Beach.front(x, "f;p010;p01"), -110);
        due.is("nothing is changed: chairs", x.many(0), 3);
        due.is("nothing is changed: folded", x.many(1), 3);
        due.is("nothing is changed: readings", x.many(3), 1);
        due.is("nothing is changed: weight", x.ofChair(0, 2), 5);
        Beach.front(x, "f;p010;p020;p033;p040");
        due.is("a smaller front", Beach.front(x, "f;p010;p021"), 2);
        due.is("it meets none of those who were", x.ofChair(1, 6), 0);
        due.is("votes of those who are", x.many(2), 3);
        due.is("no power by those who were", x.power(0, 0), 1);
        Beach.front(x, THREE);
        x.put(1, 1, 0);
        due.is("what comes to the sheet does not come to chairs", x.ofChair(0, 0), 0);
    }

    private void ofChair() {
        due.promise("3 ofChair");
        ChairBallot x = Beach.with(THREE);
        int[][] all = {{0, 1, 5, 1, 0, 5, 1}, {1, 1, 3, 3, 0, 4, 1}, {2, 2, 6, 2, 0, 3, 2}};
        for (int k = 0; k < 3; k++) {
            for (int what = 0; what <= 6; what++) {
                due.is("ofChair(" + k + ", " + what + ")", x.ofChair(k, what), all[k][what]);
            }
            due.is("ofChair(" + k + ", 7)", x.ofChair(k, 7), OUTSIDE);
            due.is("ofChair(" + k + ", -1)", x.ofChair(k, -1), OUTSIDE);
        }
        due.is("no such chair ahead of what", x.ofChair(3, 7), UNKNOWN);
        due.is("no such chair", x.ofChair(-1, 0), UNKNOWN);
        x.rain();
        int[] foldedOne = {1, 1, 3, 3, 1, 0, 0};
        for (int what = 0; what <= 6; what++) {
            due.is("folded: ofChair(1, " + what + ")", x.ofChair(1, what), foldedOne[what]);
        }
    }

    private void votesOfKinds() {
        due.promise("3 ofChair: votes");
        ChairBallot x = Beach.with("f;p010;s010;b010");
        for (int weight = 1; weight <= 9; weight++) {
            for (int k = 0; k < 3; k++) {
                x.load(k, weight);
            }
            due.is("votes of a plain one", x.ofChair(0, 5), weight);
            due.is("votes of a shaded one", x.ofChair(1, 5), weight + 1);
            due.is("votes of a broken one", x.ofChair(2, 5), (weight + 1) / 2);
        }
    }

    private void howOneCounts() {
        due.promise("3 ofChair: how it counts");
        String[] texts = {"f;p011;p013", "f;p011;p113", "f;p013;p011", "f;p010;p013", "f;p011;p012", "f;p011;p011",
            "f;p010;p012", "f;p011;p013;p013", "f;p011;p011;p213"};
        int[] first = {1, 2, 0, 1, 0, 0, 1, 1, 0};
        int[] second = {1, 2, 0, 0, 2, 0, 2, 1, 2};
        for (int t = 0; t < texts.length; t++) {
            ChairBallot x = Beach.with(texts[t]);
            due.is("the first of " + texts[t], x.ofChair(0, 6), first[t]);
            due.is("the second of " + texts[t], x.ofChair(1, 6), second[t]);
        }
        ChairBallot x = Beach.with("f;p010;p011;p013;p012");
        due.is("the last", x.ofChair(3, 6), 2);
        x.rain();
        x.open(1);
        due.is("one whose neighbour is folded meets none", x.ofChair(1, 6), 0);
        due.is("a folded one", x.ofChair(2, 6), 0);
        x.open(2);
        due.is("both are opened", x.ofChair(1, 6), 1);
        due.is("both are opened", x.ofChair(2, 6), 1);
        due.is("one folded out to sea", x.ofChair(0, 6), 0);
        due.is("one folded to the land", x.ofChair(3, 6), 0);
        ChairBallot far = Beach.with("f;p011;p010;p013");
        due.is("those that are not side by side", far.ofChair(0, 6) + far.ofChair(2, 6), 0);
    }

    private void paint() {
        due.promise("4 paint");
        ChairBallot x = Beach.with(THREE);
        due.is("paint(0, 3)", x.paint(0, 3), 1);
        due.is("its stripe", x.ofChair(0, 1), 3);
        due.is("they are against now", x.poll(4), 7);
        due.is("paint(0, 0)", x.paint(0, 0), 3);
        due.is("another stripe", x.ofChair(1, 1), 1);
        due.is("paint(0, 4)", x.paint(0, 4), OUTSIDE);
        due.is("paint(0, -1)", x.paint(0, -1), OUTSIDE);
        due.is("paint(3, 4)", x.paint(3, 4), UNKNOWN);
        due.is("paint(-1, 0)", x.paint(-1, 0), UNKNOWN);
        due.is("nothing is changed", x.ofChair(0, 1), 0);
        x.rain();
        due.is("a folded one", x.paint(2, 1), 2);
        due.is("a folded one's stripe", x.ofChair(2, 1), 1);
    }

    private void load() {
        due.promise("5 load");
        ChairBallot x = Beach.with(THREE);
        due.is("load(0, 9)", x.load(0, 9), 5);
        due.is("its weight", x.ofChair(0, 2), 9);
        due.is("its votes", x.ofChair(0, 5), 9);
        due.is("load(0, 1)", x.load(0, 1), 9);
        due.is("another weight", x.ofChair(1, 2), 3);
        due.is("load(0, 0)", x.load(0, 0), OUTSIDE);
        due.is("load(0, 10)", x.load(0, 10), OUTSIDE);
        due.is("load(3, 10)", x.load(3, 10), UNKNOWN);
        due.is("load(-1, 1)", x.load(-1, 1), UNKNOWN);
        due.is("nothing is changed", x.ofChair(0, 2), 1);
        x.rain();
        due.is("a folded one", x.load(2, 4), 6);
        due.is("a folded one's weight", x.ofChair(2, 2), 4);
    }

    private void poll() {
        due.promise("6 poll");
        ChairBallot x = new ChairBallot();
        due.is("no front ahead of what", x.poll(5), STATE);
        polled(Beach.with(THREE), 9, 3, 1, 3, 4);
        polled(Beach.with("f;p050;s022;b031"), 5, 3, 1, 1, 2);
        polled(Beach.with("f;p030;s022"), 3, 3, 0, 1, 2);
        polled(Beach.with("f;p020;s022"), 2, 3, 0, 1, 2);
        polled(Beach.with("f;p023;s021"), 0, 0, 0, 0, 0);
        polled(Beach.with("f;p021;s123;p191;b193;b052"), 14, 8, 1, 12, 19);
        polled(Beach.with("f" + ";s090".repeat(8)), 80, 0, 1, 255, 0);
        ChairBallot y = Beach.with(THREE);
        y.rain();
        polled(y, 0, 0, 0, 0, 0);
        y.open(2);
        polled(y, 0, 3, 0, 0, 4);
        due.is("poll(5)", y.poll(5), OUTSIDE);
        due.is("poll(-1)", y.poll(-1), OUTSIDE);
    }

    private void polled(ChairBallot x, int... answers) {
        for (int what = 0; what < answers.length; what++) {
            due.is("poll(" + what + ")", x.poll(what), answers[what]);
        }
    }
}
