/** Promises 1 to 6 at their edges: the front. */
public final class FrontEdgesTest {
    private static final int UNKNOWN = Edges.UNKNOWN, OUTSIDE = Edges.OUTSIDE, STATE = Edges.STATE;
    private static final int NULL = Edges.NULL, CAST = Edges.CAST, INDEX = Edges.INDEX, SIZE = Edges.SIZE;
    private static final int LEAST = Edges.LEAST, GREATEST = Edges.GREATEST;
    private static final long LOST = Edges.LOST;
    private static final String EIGHT = "f;p010;s121;b232;p343;s050;b161;p272;s383";
    private static final int FEWEST_CODES = 11, MOST_CODES = 41;

    private final Due due = new Due("FrontEdgesTest");
    private final Edges edges = new Edges(due);

    public static void main(String[] args) {
        FrontEdgesTest test = new FrontEdgesTest();
        test.aNewObjectHasNoChairs();
        test.aNewObjectHasNothingOnSheets();
        test.objectsShareNothing();
        test.everyCodeAtEveryPlace();
        test.everyLength();
        test.theFirstOfSeveralFaults();
        test.aNinthChair();
        test.codesThatAreCut();
        test.codesBeyondAllLanes();
        test.whereATextBegins();
        test.rowsOfNoCells();
        test.refusalsOfFront();
        test.faultsOfFront();
        test.twoAtOnceInFront();
        test.wrongTextsChangeNothing();
        test.aTextThatIsTakenMakesAllAnew();
        test.ofChair();
        test.ofChairWithoutFront();
        test.votesThatAreCut();
        test.whoMeets();
        test.endsOfTheRowMeetNone();
        test.oneBetweenKeepsThemApart();
        test.paint();
        test.load();
        test.poll();
        test.carriedByOne();
        test.due.end();
    }

    private void aNewObjectHasNoChairs() {
        due.promise("1 a new object");
        edges.on(ChairBallot::new);
        int[] chairs = {0, 1, 7, 8, -1, LEAST, GREATEST};
        edges.leavesEach("ofChair", chairs, UNKNOWN, (x, k) -> x.ofChair(k, 0));
        edges.leavesEach("paint", chairs, UNKNOWN, (x, k) -> x.paint(k, 0));
        edges.leavesEach("load", chairs, UNKNOWN, (x, k) -> x.load(k, 1));
        edges.leavesEach("turn", chairs, UNKNOWN, (x, k) -> x.turn(k, 0));
        edges.leavesEach("open", chairs, UNKNOWN, (x, k) -> x.open(k));
        edges.leavesEach("reading", chairs, UNKNOWN, (x, k) -> x.reading(k, 0));
        edges.leavesEach("weights", chairs, UNKNOWN, (x, k) -> x.weights(k));
        edges.leavesEach("kinds", chairs, UNKNOWN, (x, k) -> x.kinds(k));
        edges.leavesEach("tell", chairs, UNKNOWN, (x, k) -> x.tell(k));
        edges.leavesEach("chalk", chairs, UNKNOWN, (x, k) -> x.chalk(k));
        edges.leavesEach("as", chairs, UNKNOWN, (x, k) -> x.as(k, 0));
        edges.leavesEach("odds", new int[] {-1, 0, 7}, LOST, (x, k) -> x.odds(k, 0));
        edges.leavesEach("poll", new int[] {0, 1, 2, 3, 4}, STATE, (x, what) -> x.poll(what));
        edges.leavesEach("many", new int[] {0, 1, 2, 3}, 0, (x, what) -> x.many(what));
        edges.leavesEach("power", new int[] {0, 1, 2, 3}, LOST, (x, stripe) -> x.power(stripe, 1));
        edges.leavesEach("day", new int[] {0, 4, 10, 17}, STATE, (x, what) -> x.day(0, 0, 0, 0, what));
        edges.leaves("gust", STATE, x -> x.gust(0, 10));
        edges.leaves("rain", STATE, x -> x.rain());
        edges.leaves("swing", STATE, x -> x.swing());
        edges.leaves("blow", STATE, x -> x.blow(0));
        edges.leaves("wards", STATE, x -> x.wards(1, -1));
        edges.leaves("back of none", 0, x -> x.back(0));
        edges.leaves("trace", 0, x -> x.trace());
        edges.leaves("fault", 0, x -> x.fault());
    }

    private void aNewObjectHasNothingOnSheets() {
        due.promise("1 a new object");
        edges.on(ChairBallot::new);
        int[] all = {0, 1, 2, 3};
        edges.leavesEach("lose", all, 0, (x, k) -> x.lose(k));
        edges.faultsEach("put", all, NULL, (x, k) -> x.put(k, 0, 1));
        edges.faultsEach("front", all, NULL, (x, k) -> x.front(k, 0, 0, 0));
        edges.faultsEach("copy within one", all, NULL, (x, k) -> x.copy(k, 0, k, 0, 0));
        for (int lane = 0; lane < 3; lane++) {
            int one = lane;
            for (int k : all) {
                edges.leaves("cell of " + k, LOST, 1, x -> x.cell(k, 0, one));
            }
        }
    }

    private void objectsShareNothing() {
        due.promise("1 a new object");
        edges.on(ChairBallot::new);
        edges.leaves("others have a front, readings, sheets, a trace, a fault", 0, x -> {
            Edges.four();
            return 0;
        });
        edges.on(Edges::four);
        edges.leaves("others are made", 0, x -> {
            Edges.eight();
            return new ChairBallot().many(0);
        });
    }

    /** Which codes a text goes on with at a place. */
    private static boolean goesOn(int place, int code) {
        String codes = place == 0 ? "f" : new String[] {"0123", ";", "psb", "0123", "123456789"}[place % 5];
        return place < MOST_CODES && codes.indexOf(code) >= 0;
    }

    private void everyCodeAtEveryPlace() {
        due.promise("2 front: first fault");
        for (int place = 0; place <= MOST_CODES; place++) {
            int n = Math.max(MOST_CODES, place + 1);
            ChairBallot x = new ChairBallot();
            Beach.write(x, 0, Beach.BYTES, EIGHT + ";");
            for (int code = -128; code < 128; code++) {
                if (code == 0) {
                    x = new ChairBallot();
                    Beach.write(x, 0, Beach.BYTES, EIGHT + ";");
                }
                x.put(0, place, code);
                due.is("code " + code + " at " + place, x.front(0, Beach.BYTES, 0, n),
                        goesOn(place, code) ? 8 : -100 - place);
            }
        }
    }

    private void everyLength() {
        due.promise("2 front: it just ends too soon");
        ChairBallot x = new ChairBallot();
        Beach.write(x, 3, Beach.SHORTS, EIGHT + ";p010;p010;p010;p01");
        for (int n = 0; n <= 60; n++) {
            int want = n > MOST_CODES ? -141 : n >= FEWEST_CODES && n % 5 == 1 ? n / 5 : -100 - n;
            due.is("a text of " + n, x.front(3, Beach.SHORTS, 0, n), want);
            due.is("fault()", x.fault(), 0);
        }
        due.is("behind its end", x.front(3, Beach.SHORTS, 0, 61), INDEX);
    }

    private void theFirstOfSeveralFaults() {
        due.promise("2 front: first fault");
        String[] texts = {"xxxxxx", "fxxxxx", "f;x451x", "f;p451x", "f;p051x", "f;p0a4", "f;p01", "f;p010;p010;p",
            "f;p010;p010;p010p", "f;p010;p0100", "f;p010;p0", "f;p010;p00"};
        int[] places = {0, 1, 2, 3, 6, 4, 5, 13, 16, 11, 9, 9};
        for (int t = 0; t < texts.length; t++) {
            due.is("front of " + texts[t], Beach.front(new ChairBallot(), texts[t]), -100 - places[t]);
        }
        due.is("as many", places.length, texts.length);
    }

    private void aNinthChair() {
        due.promise("2 front: a ninth chair");
        due.is("its ; alone", Beach.front(new ChairBallot(), EIGHT + ";"), -141);
        due.is("a whole one", Beach.front(new ChairBallot(), EIGHT + ";p010"), -141);
        due.is("one that is wrong", Beach.front(new ChairBallot(), EIGHT + "p"), -141);
        due.is("a fault ahead of it", Beach.front(new ChairBallot(), EIGHT.replace('8', '0') + ";p010"), -139);
        due.is("eight are taken", Beach.front(new ChairBallot(), EIGHT), 8);
    }

    private void codesThatAreCut() {
        due.promise("2 front: cells are cut to their lane");
        int[] bits = {8, 16, 0};
        for (int lane = 0; lane < 3; lane++) {
            ChairBallot x = new ChairBallot();
            x.sheet(0, lane, FEWEST_CODES);
            for (int i = 0; i < FEWEST_CODES; i++) {
                int more = bits[lane] == 0 ? 0 : (i % 2 == 0 ? 3 : -5) << bits[lane];
                x.put(0, i, "f;b391;s013".charAt(i) + more);
            }
            due.is("lane " + lane, x.front(0, lane, 0, FEWEST_CODES), 2);
            due.is("kind, lane " + lane, x.ofChair(0, 0), 2);
            due.is("stripe, lane " + lane, x.ofChair(0, 1), 3);
            due.is("weight, lane " + lane, x.ofChair(0, 2), 9);
            due.is("way, lane " + lane, x.ofChair(0, 3), 1);
        }
    }

    private void codesBeyondAllLanes() {
        due.promise("2 front: first fault");
        ChairBallot x = new ChairBallot();
        int[] of = {102, 59, 112, 48, 49, 48};
        for (int place = 0; place < of.length; place++) {
            int[] codes = {of[place] + 256, of[place] + 65536, of[place] - 256, -of[place], LEAST, GREATEST,
                LEAST + of[place]};
            for (int code : codes) {
                Beach.write(x, 2, Beach.INTS, 102, 59, 112, 48, 49, 48);
                x.put(2, place, code);
                due.is(code + " at " + place, x.front(2, Beach.INTS, 0, 6), -100 - place);
            }
            x = new ChairBallot();
        }
    }

    private void whereATextBegins() {
        due.promise("2 front: from i on");
        ChairBallot x = new ChairBallot();
        Beach.write(x, 0, Beach.BYTES, "f;p010;b323".repeat(5) + ";s091");
        due.is("the first cells", x.front(0, 0, 0, 11), 2);
        due.is("cells between", x.front(0, 0, 22, 11), 2);
        due.is("one cell beside", x.front(0, 0, 23, 11), -100);
        due.is("a text too long", x.front(0, 0, 33, 16), -111);
        due.is("the last cells", x.front(0, 0, 44, 16), 3);
        due.is("the last one's look", x.ofChair(2, 3), 1);
        due.is("one cell more than there are", x.front(0, 0, 44, 17), INDEX);
        due.is("one cell on", x.front(0, 0, 45, 16), INDEX);
        due.is("the last cell", x.front(0, 0, 59, 1), -100);
        due.is("none from the end on", x.front(0, 0, 60, 0), -100);
        due.is("one from the end on", x.front(0, 0, 60, 1), INDEX);
        due.is("none from behind the end on", x.front(0, 0, 61, 0), INDEX);
        Beach.write(x, 1, Beach.INTS, "x".repeat(19) + EIGHT);
        due.is("eight to the end", x.front(1, 2, 19, 41), 8);
    }

    private void rowsOfNoCells() {
        due.promise("2 front: rows of no cells");
        for (int lane = 0; lane < 3; lane++) {
            ChairBallot x = new ChairBallot();
            x.sheet(0, lane, 0);
            due.is("none is taken", x.front(0, lane, 0, 0), -100);
            due.is("fault()", x.fault(), 0);
            due.is("one is taken", x.front(0, lane, 0, 1), INDEX);
            due.is("none is taken, from 1 on", x.front(0, lane, 1, 0), INDEX);
            due.is("none is taken, from -1 on", x.front(0, lane, -1, 0), INDEX);
            due.is("fault()", x.fault(), 3);
        }
    }

    private void refusalsOfFront() {
        due.promise("2 front: refusals");
        edges.on(Edges::four);
        edges.refusesEach("sheet", Edges.beyond(0, 3), UNKNOWN, (x, k) -> x.front(k, 1, 0, 21));
        edges.refusesEach("lane", Edges.beyond(0, 2), OUTSIDE, (x, lane) -> x.front(1, lane, 0, 21));
    }

    private void faultsOfFront() {
        due.promise("2 front: faults");
        edges.on(Edges::four);
        for (int k = 0; k < 3; k++) {
            for (int lane = 0; lane < 3; lane++) {
                int sheet = k;
                int as = lane;
                if (k != lane) {
                    edges.faults("sheet " + k + " as " + lane, CAST, x -> x.front(sheet, as, 0, 0));
                }
            }
        }
        edges.faultsEach("nothing is no cast", new int[] {0, 1, 2}, NULL, (x, lane) -> x.front(3, lane, 0, 0));
        edges.faultsEach("n", new int[] {-1, -2, LEAST, LEAST + 1}, SIZE, (x, n) -> x.front(1, 1, 0, n));
        edges.faultsEach("n", new int[] {22, 61, GREATEST - 1, GREATEST}, INDEX, (x, n) -> x.front(1, 1, 0, n));
        edges.faultsEach("i", new int[] {-1, LEAST, 1, 21, 22, GREATEST}, INDEX, (x, i) -> x.front(1, 1, i, 21));
        edges.faultsEach("i, n 0", Edges.beyond(0, 21), INDEX, (x, i) -> x.front(1, 1, i, 0));
        edges.faultsEach("i, the greatest n", new int[] {1, 21, GREATEST}, INDEX, (x, i) -> x.front(1, 1, i, GREATEST));
    }

    private void twoAtOnceInFront() {
        due.promise("2 front: the first that is told");
        edges.on(Edges::four);
        edges.refuses("no sheet, no lane", UNKNOWN, x -> x.front(4, 3, 0, 21));
        edges.refuses("no sheet, size", UNKNOWN, x -> x.front(4, 1, 0, -1));
        edges.refuses("no sheet, index", UNKNOWN, x -> x.front(-1, 1, -1, 1));
        edges.refuses("no lane, nothing", OUTSIDE, x -> x.front(3, 3, 0, 0));
        edges.refuses("no lane, size", OUTSIDE, x -> x.front(1, -1, 0, -1));
        edges.refuses("no lane, index", OUTSIDE, x -> x.front(1, 3, 22, 1));
        edges.faults("cast, size", CAST, x -> x.front(1, 0, 0, -1));
        edges.faults("cast, index", CAST, x -> x.front(1, 2, 0, 22));
        edges.faults("nothing, size", NULL, x -> x.front(3, 0, 0, -1));
        edges.faults("nothing, index", NULL, x -> x.front(3, 1, 1, 0));
        edges.faults("size, index", SIZE, x -> x.front(1, 1, -1, -1));
        edges.faults("size, index behind the end", SIZE, x -> x.front(1, 1, 22, -1));
        edges.faults("index, no text", INDEX, x -> x.front(1, 1, 1, 21));
        edges.faults("index, no text in what there is", INDEX, x -> x.front(0, 0, 0, 4));
    }

    private void wrongTextsChangeNothing() {
        due.promise("2 front: -100 less it");
        edges.on(Edges::four);
        edges.refuses("none", -100, x -> x.front(1, 1, 0, 0));
        edges.refuses("the first code", -100, x -> x.front(0, 0, 0, 3));
        edges.refuses("the second chair ends too soon", -110, x -> x.front(1, 1, 0, 10));
        edges.refuses("one chair", -106, x -> x.front(1, 1, 0, 6));
        edges.refuses("from the end on", -100, x -> x.front(1, 1, 21, 0));
        edges.refuses("from within on", -100, x -> x.front(1, 1, 1, 20));
        edges.on(Edges::bare);
        edges.refuses("without a front: one chair", -106, x -> x.front(1, 1, 0, 6));
    }

    private void aTextThatIsTakenMakesAllAnew() {
        due.promise("2 front: all anew, but for sheets and trace");
        ChairBallot x = Edges.four();
        due.is("two of them", x.front(1, 1, 0, 11), 2);
        due.is("fault()", x.fault(), 0);
        ChairBallot same = Beach.with("f;p151;s133;b262;p340");
        Beach.write(same, 0, Beach.BYTES, 5, -6, 7);
        Beach.write(same, 2, Beach.INTS, 0, 2, 1, 0);
        same.tell(2);
        same.front(1, 1, 0, 11);
        due.same("what is seen", Seen.of(x), Seen.of(same));
        ChairBallot y = Edges.eight();
        due.is("the same once more", y.front(1, 1, 0, 41), 8);
        due.is("no readings", y.many(3), 0);
        y.rain();
        due.is("the same once more", y.front(1, 1, 0, 41), 8);
        due.is("none is folded", y.many(1), 0);
        y.lose(1);
        due.is("they stay, if the text is lost", y.many(0), 8);
    }

    private void ofChair() {
        due.promise("3 ofChair");
        edges.on(Edges::four);
        edges.leavesEach("chair", Edges.beyond(0, 3), UNKNOWN, (x, k) -> x.ofChair(k, 0));
        edges.leavesEach("chair ahead of what", Edges.beyond(0, 3), UNKNOWN, (x, k) -> x.ofChair(k, 7));
        edges.leavesEach("what", Edges.beyond(0, 6), OUTSIDE, (x, what) -> x.ofChair(3, what));
        int[] first = {0, 1, 5, 1, 0, 5, 1};
        int[] folded = {0, 3, 4, 0, 1, 0, 0};
        for (int what = 0; what <= 6; what++) {
            int one = what;
            edges.leaves("the first one's " + what, first[what], x -> x.ofChair(0, one));
            edges.leaves("a folded one's " + what, folded[what], x -> x.ofChair(3, one));
        }
        edges.on(Edges::eight);
        edges.leavesEach("chair of eight", Edges.beyond(0, 7), UNKNOWN, (x, k) -> x.ofChair(k, 1));
        edges.leaves("the last of eight", 3, x -> x.ofChair(7, 1));
    }

    private void ofChairWithoutFront() {
        due.promise("3 ofChair");
        edges.on(Edges::bare);
        edges.leaves("no chair ahead of what", UNKNOWN, x -> x.ofChair(0, 7));
        edges.on(() -> Beach.with("f;p010;p020"));
        edges.leaves("the last of two", 2, x -> x.ofChair(1, 2));
        edges.leavesEach("chair of two", Edges.beyond(0, 1), UNKNOWN, (x, k) -> x.ofChair(k, 0));
    }

    private void votesThatAreCut() {
        due.promise("3 ofChair: votes");
        String[] texts = {"f;p010;p090", "f;s010;s090", "f;b010;b090", "f;b020;b030", "f;b040;b080"};
        int[] votes = {1, 9, 2, 10, 1, 5, 1, 2, 2, 4};
        for (int t = 0; t < texts.length; t++) {
            ChairBallot x = Beach.with(texts[t]);
            due.is("first votes of " + texts[t], x.ofChair(0, 5), votes[2 * t]);
            due.is("second votes of " + texts[t], x.ofChair(1, 5), votes[2 * t + 1]);
            due.is("all of " + texts[t], x.many(2), votes[2 * t] + votes[2 * t + 1]);
            x.rain();
            due.is("all of " + texts[t] + ", folded", x.many(2), 0);
            x.open(1);
            due.is("all of " + texts[t] + ", one opened", x.many(2), votes[2 * t + 1]);
        }
    }

    /** Every way that two chairs can look, with stripes alike and not, with none, one or both folded. */
    private void whoMeets() {
        due.promise("3 ofChair: who meets");
        int[] alone = {1, 0, 2, 0};
        for (int all = 0; all < 128; all++) {
            int left = all & 3;
            int right = all >> 2 & 3;
            boolean alike = (all & 16) != 0;
            int open = all >> 5;
            ChairBallot x = Beach.with("f;p27" + left + ";s" + (alike ? 2 : 1) + "4" + right);
            x.rain();
            for (int k = 0; k < 2; k++) {
                if ((open >> k & 1) != 0) {
                    x.open(k);
                }
            }
            boolean meet = open == 3 && left == 1 && right == 3;
            String told = "looks " + left + ", " + right + ", opened " + open + ", alike " + alike;
            due.is("the left one: " + told, x.ofChair(0, 6),
                    (open & 1) == 0 ? 0 : meet ? alike ? 1 : 2 : alone[left]);
            due.is("the right one: " + told, x.ofChair(1, 6),
                    (open & 2) == 0 ? 0 : meet ? alike ? 1 : 2 : alone[right]);
        }
    }

    private void endsOfTheRowMeetNone() {
        due.promise("3 ofChair: who meets");
        ChairBallot two = Beach.with("f;p013;p011");
        due.is("the first of two looks to the left", two.ofChair(0, 6), 0);
        due.is("the last of two looks to the right", two.ofChair(1, 6), 0);
        ChairBallot x = Beach.with("f;p013" + ";p010".repeat(6) + ";p011");
        due.is("the first of eight looks to the left", x.ofChair(0, 6), 0);
        due.is("the last of eight looks to the right", x.ofChair(7, 6), 0);
        due.is("who is for", x.poll(3), 126);
        for (int k = 0; k < 7; k++) {
            x = Beach.with("f" + ";p012".repeat(8));
            x.turn(k, 1);
            x.turn(k + 1, 3);
            due.is("those who meet at " + k, x.poll(3), 3 << k);
            x.paint(k + 1, 3);
            due.is("they are not alike at " + k, x.poll(4), 255);
        }
    }

    private void oneBetweenKeepsThemApart() {
        due.promise("3 ofChair: who meets");
        ChairBallot x = Beach.with("f;p011;p010;p013");
        due.is("one between that is for", x.poll(3), 2);
        x.rain();
        x.open(0);
        x.open(2);
        due.is("one between that is folded", x.poll(3), 0);
        due.is("one between that is folded", x.poll(4), 0);
        due.is("right, right, left", Beach.with("f;p011;p011;p013").poll(3), 6);
        due.is("right, left, left", Beach.with("f;p011;p013;p013").poll(3), 3);
        due.is("right, left, right, left", Beach.with("f;p011;p013;p111;p213").poll(3), 3);
        due.is("right, left, right, left", Beach.with("f;p011;p013;p111;p213").poll(4), 12);
        due.is("left, right, left", Beach.with("f;p013;p011;p113").poll(4), 6);
    }

    private void paint() {
        due.promise("4 paint");
        edges.on(Edges::four);
        edges.leavesEach("chair", Edges.beyond(0, 3), UNKNOWN, (x, k) -> x.paint(k, 0));
        edges.leavesEach("chair ahead of stripe", Edges.beyond(0, 3), UNKNOWN, (x, k) -> x.paint(k, 4));
        edges.leavesEach("stripe", Edges.beyond(0, 3), OUTSIDE, (x, v) -> x.paint(0, v));
        edges.leaves("the stripe that it has", 1, x -> x.paint(0, 1));
        for (int v = 0; v < 4; v++) {
            ChairBallot x = Edges.four();
            due.is("it was", x.paint(3, v), 3);
            due.is("it is", x.ofChair(3, 1), v);
            due.is("it was, once more", x.paint(3, 3 - v), v);
            due.is("another is as it was", x.ofChair(2, 1), 2);
            due.is("fault() is as it was", x.fault(), 2);
        }
        edges.on(Edges::bare);
        edges.leaves("no front", UNKNOWN, x -> x.paint(0, 0));
    }

    private void load() {
        due.promise("5 load");
        edges.on(Edges::four);
        edges.leavesEach("chair", Edges.beyond(0, 3), UNKNOWN, (x, k) -> x.load(k, 1));
        edges.leavesEach("chair ahead of weight", Edges.beyond(0, 3), UNKNOWN, (x, k) -> x.load(k, 0));
        edges.leavesEach("weight", Edges.beyond(1, 9), OUTSIDE, (x, v) -> x.load(0, v));
        edges.leaves("the weight that it has", 4, x -> x.load(3, 4));
        for (int v = 1; v <= 9; v++) {
            ChairBallot x = Edges.four();
            due.is("it was", x.load(3, v), 4);
            due.is("it is", x.ofChair(3, 2), v);
            due.is("it has no votes", x.ofChair(3, 5), 0);
            x.open(3);
            due.is("it has votes", x.ofChair(3, 5), v);
            due.is("another is as it was", x.ofChair(2, 2), 6);
            due.is("fault() is as it was", x.fault(), 2);
        }
        edges.on(Edges::bare);
        edges.leaves("no front", UNKNOWN, x -> x.load(0, 1));
    }

    private void poll() {
        due.promise("6 poll");
        int[] answers = {9, 3, 1, 3, 4};
        edges.on(Edges::four);
        for (int what = 0; what <= 4; what++) {
            int one = what;
            edges.leaves("poll(" + what + ")", answers[what], x -> x.poll(one));
        }
        edges.leavesEach("what", Edges.beyond(0, 4), OUTSIDE, (x, what) -> x.poll(what));
        edges.on(Edges::bare);
        edges.leavesEach("no front ahead of what", Edges.beyond(0, 4), STATE, (x, what) -> x.poll(what));
        edges.leavesEach("no front", new int[] {0, 1, 2, 3, 4}, STATE, (x, what) -> x.poll(what));
    }

    private void carriedByOne() {
        due.promise("6 poll: carried");
        due.is("one vote more", Beach.with("f;p060;p052").poll(2), 1);
        due.is("as many", Beach.with("f;p050;p052").poll(2), 0);
        due.is("one vote fewer", Beach.with("f;p040;p052").poll(2), 0);
        due.is("none at all", Beach.with("f;p091;p091").poll(2), 0);
        due.is("one for, none against", Beach.with("f;b010;p091").poll(2), 1);
        due.is("none for, one against", Beach.with("f;b012;p091").poll(2), 0);
        due.is("fewer chairs with more votes", Beach.with("f;p090;p022;p022;p022;p022").poll(2), 1);
        due.is("votes, not weights", Beach.with("f;b090;p052").poll(2), 0);
        due.is("all that there can be, for", Beach.with("f" + ";s090".repeat(8)).poll(0), 80);
        due.is("all that there can be, against", Beach.with("f" + ";s092".repeat(8)).poll(1), 80);
        due.is("all are for", Beach.with("f" + ";s090".repeat(8)).poll(3), 255);
        due.is("all are against", Beach.with("f" + ";s092".repeat(8)).poll(4), 255);
    }
}
