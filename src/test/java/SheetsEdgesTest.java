/** Promises 21 to 31 at their edges: sheets, parts. */
public final class SheetsEdgesTest {
    private static final int UNKNOWN = Edges.UNKNOWN, OUTSIDE = Edges.OUTSIDE;
    private static final int NULL = Edges.NULL, CAST = Edges.CAST, INDEX = Edges.INDEX, SIZE = Edges.SIZE;
    private static final int LEAST = Edges.LEAST, GREATEST = Edges.GREATEST;
    private static final long LOST = Edges.LOST;
    private static final int[] ALL_SHEETS = {0, 1, 2, 3}, ALL_LANES = {0, 1, 2};

    private final Due due = new Due("SheetsEdgesTest");
    private final Edges edges = new Edges(due);

    public static void main(String[] args) {
        SheetsEdgesTest test = new SheetsEdgesTest();
        test.refusalsOfSheet();
        test.twoAtOnceInSheet();
        test.newRows();
        test.lose();
        test.refusalsOfPut();
        test.faultsOfPut();
        test.cutToBytes();
        test.cutToShorts();
        test.notCutToInts();
        test.refusalsOfCell();
        test.faultsOfCell();
        test.refusalsOfCopy();
        test.faultsOfCopy();
        test.indicesOfCopy();
        test.twoAtOnceInCopy();
        test.copiesOfNone();
        test.copiesOfAll();
        test.copiesAsTheyWere();
        test.tell();
        test.chalk();
        test.as();
        test.traceThatWraps();
        test.whatLeavesTraces();
        test.faultOfEachCall();
        test.faultStaysBehindOthers();
        test.many();
        test.as512Calls();
        test.due.end();
    }

    private void refusalsOfSheet() {
        due.promise("21 sheet");
        edges.on(Edges::four);
        edges.refusesEach("sheet", Edges.beyond(0, 3), UNKNOWN, (x, k) -> x.sheet(k, 0, 1));
        for (int k : ALL_SHEETS) {
            edges.refusesEach("lane of " + k, Edges.beyond(0, 2), OUTSIDE, (x, lane) -> x.sheet(k, lane, 1));
            edges.refusesEach("n of " + k, new int[] {61, 62, GREATEST}, OUTSIDE, (x, n) -> x.sheet(k, 0, n));
            edges.faultsEach("n of " + k, new int[] {-1, -2, LEAST}, SIZE, (x, n) -> x.sheet(k, 2, n));
        }
        edges.faultsEach("lane", ALL_LANES, SIZE, (x, lane) -> x.sheet(0, lane, -1));
        edges.refusesEach("lane", ALL_LANES, OUTSIDE, (x, lane) -> x.sheet(0, lane, 61));
    }

    private void twoAtOnceInSheet() {
        due.promise("21 sheet: the first that is told");
        edges.on(Edges::four);
        edges.refuses("no sheet, no lane", UNKNOWN, x -> x.sheet(4, 3, 1));
        edges.refuses("no sheet, too many", UNKNOWN, x -> x.sheet(-1, 0, 61));
        edges.refuses("no sheet, size", UNKNOWN, x -> x.sheet(4, 0, -1));
        edges.refuses("no lane, size", OUTSIDE, x -> x.sheet(0, 3, -1));
        edges.refuses("no lane, the least size", OUTSIDE, x -> x.sheet(0, -1, LEAST));
        edges.refuses("no lane, too many", OUTSIDE, x -> x.sheet(0, 3, 61));
    }

    private void newRows() {
        due.promise("21 sheet: a new row");
        for (int k : ALL_SHEETS) {
            for (int lane : ALL_LANES) {
                ChairBallot x = Edges.four();
                int n = new int[] {0, 1, 60}[lane];
                due.is("a row of " + n, x.sheet(k, lane, n), 1);
                due.is("fault()", x.fault(), 0);
                for (int i = 0; i < n; i++) {
                    due.is("0 at first", x.cell(k, i, lane), 0);
                }
                due.is("behind its end", x.cell(k, n, lane), LOST);
                due.is("fault()", x.fault(), 3);
                due.is("it is of its lane alone", x.cell(k, 0, (lane + 1) % 3), LOST);
                due.is("fault()", x.fault(), 2);
                due.is("chairs stay", x.many(0), 4);
            }
        }
        ChairBallot x = new ChairBallot();
        Beach.write(x, 0, Beach.INTS, 7, 8, 9, LEAST, GREATEST);
        for (int n = 1; n <= 5; n++) {
            x.sheet(0, Beach.INTS, n);
            for (int i = 0; i < n; i++) {
                due.is("0 at first, of " + n, x.cell(0, i, Beach.INTS), 0);
            }
            x.put(0, n - 1, n);
        }
        x.lose(0);
        x.sheet(0, Beach.INTS, 5);
        due.is("0 at first, as it was lost", x.cell(0, 4, Beach.INTS), 0);
    }

    private void lose() {
        due.promise("22 lose");
        edges.on(Edges::four);
        edges.leavesEach("sheet", Edges.beyond(0, 3), UNKNOWN, (x, k) -> x.lose(k));
        edges.leaves("it had nothing", 0, x -> x.lose(3));
        for (int k : ALL_SHEETS) {
            ChairBallot x = Edges.four();
            due.is("lose(" + k + ")", x.lose(k), k == 3 ? 0 : 1);
            due.is("fault() is as it was", x.fault(), 2);
            for (int other : ALL_SHEETS) {
                due.is("sheet " + other, x.put(other, 0, 1), other == k || other == 3 ? NULL : 1);
            }
            due.is("once more", x.lose(k), 0);
            x.sheet(k, 0, 0);
            due.is("a row of no cells is no nothing", x.lose(k), 1);
        }
    }

    private void refusalsOfPut() {
        due.promise("23 put");
        edges.on(Edges::four);
        edges.refusesEach("sheet", Edges.beyond(0, 3), UNKNOWN, (x, k) -> x.put(k, 0, 1));
        edges.refusesEach("sheet, index", Edges.beyond(0, 3), UNKNOWN, (x, k) -> x.put(k, -1, 1));
    }

    private void faultsOfPut() {
        due.promise("23 put: faults");
        edges.on(Edges::four);
        edges.faultsEach("nothing", new int[] {0, 1, 60}, NULL, (x, i) -> x.put(3, i, 1));
        edges.faultsEach("nothing, index", Edges.beyond(0, 59), NULL, (x, i) -> x.put(3, i, 1));
        edges.faultsEach("i of three", Edges.beyond(0, 2), INDEX, (x, i) -> x.put(0, i, 1));
        edges.faultsEach("i of twenty-one", Edges.beyond(0, 20), INDEX, (x, i) -> x.put(1, i, 1));
        edges.faultsEach("i of four", Edges.beyond(0, 3), INDEX, (x, i) -> x.put(2, i, 1));
        edges.on(() -> {
            ChairBallot x = new ChairBallot();
            x.sheet(0, 0, 0);
            x.sheet(1, 1, 1);
            x.sheet(2, 2, 60);
            return x;
        });
        edges.faultsEach("i of none", new int[] {LEAST, -1, 0, 1, GREATEST}, INDEX, (x, i) -> x.put(0, i, 1));
        edges.faultsEach("i of one", Edges.beyond(0, 0), INDEX, (x, i) -> x.put(1, i, 1));
        edges.faultsEach("i of sixty", Edges.beyond(0, 59), INDEX, (x, i) -> x.put(2, i, 1));
    }

    private void cut(int lane, int v, int want) {
        ChairBallot x = new ChairBallot();
        x.sheet(2, lane, 60);
        for (int i : new int[] {0, 59}) {
            due.is("put(2, " + i + ", " + v + ")", x.put(2, i, v), 1);
            due.is("fault()", x.fault(), 0);
            due.is("lane " + lane + " of " + v, x.cell(2, i, lane), want);
        }
        due.is("the cell beside", x.cell(2, 1, lane), 0);
        due.is("the cell beside", x.cell(2, 58, lane), 0);
    }

    private void cutToBytes() {
        due.promise("23 put: cut to bytes");
        int[] put = {0, 1, -1, 127, 128, 129, 255, 256, 257, -127, -128, -129, -130, -256, -257, 32767, 32768, 65535,
            65536, LEAST, LEAST + 1, GREATEST, GREATEST - 1};
        int[] has = {0, 1, -1, 127, -128, -127, -1, 0, 1, -127, -128, 127, 126, 0, -1, -1, 0, -1, 0, 0, 1, -1, -2};
        for (int c = 0; c < put.length; c++) {
            cut(Beach.BYTES, put[c], has[c]);
        }
    }

    private void cutToShorts() {
        due.promise("23 put: cut to shorts");
        int[] put = {0, 1, -1, 127, 128, 255, 256, -129, 32766, 32767, 32768, 32769, 65535, 65536, 65537, -32767,
            -32768, -32769, -65536, -65537, LEAST, LEAST + 1, GREATEST, GREATEST - 1};
        int[] has = {0, 1, -1, 127, 128, 255, 256, -129, 32766, 32767, -32768, -32767, -1, 0, 1, -32767, -32768, 32767,
            0, -1, 0, 1, -1, -2};
        for (int c = 0; c < put.length; c++) {
            cut(Beach.SHORTS, put[c], has[c]);
        }
    }

    private void notCutToInts() {
        due.promise("23 put: ints");
        int[] put = {0, 1, -1, 127, 128, -129, 32768, -32769, 65536, LEAST, LEAST + 1, GREATEST, GREATEST - 1};
        for (int v : put) {
            cut(Beach.INTS, v, v);
        }
    }

    private void refusalsOfCell() {
        due.promise("24 cell");
        edges.on(Edges::four);
        edges.refusesEach("sheet", Edges.beyond(0, 3), LOST, (x, k) -> x.cell(k, 0, 0));
        for (int k : ALL_SHEETS) {
            for (int lane : Edges.beyond(0, 2)) {
                edges.refuses("lane " + lane + " of " + k, LOST, x -> x.cell(k, 0, lane));
                edges.refuses("lane " + lane + " of " + k + ", index", LOST, x -> x.cell(k, -1, lane));
            }
        }
        edges.refuses("no sheet, no lane", LOST, x -> x.cell(4, 0, 3));
        edges.refuses("no sheet, index", LOST, x -> x.cell(-1, -1, 0));
        edges.refuses("the first cell", 5, x -> x.cell(0, 0, 0));
        edges.refuses("the last cell", 7, x -> x.cell(0, 2, 0));
    }

    private void faultsOfCell() {
        due.promise("24 cell: faults");
        edges.on(Edges::four);
        int[] lengths = {3, 21, 4};
        for (int k = 0; k < 3; k++) {
            int sheet = k;
            for (int lane : ALL_LANES) {
                if (lane != k) {
                    edges.leaves("sheet " + k + " as " + lane, LOST, 2, x -> x.cell(sheet, 0, lane));
                    edges.leaves("sheet " + k + " as " + lane + ", index", LOST, 2, x -> x.cell(sheet, -1, lane));
                }
                edges.leaves("nothing is no cast", LOST, 1, x -> x.cell(3, 0, lane));
                edges.leaves("nothing ahead of index", LOST, 1, x -> x.cell(3, 60, lane));
            }
            for (int i : Edges.beyond(0, lengths[k] - 1)) {
                edges.leaves("sheet " + k + ", cell " + i, LOST, 3, x -> x.cell(sheet, i, sheet));
            }
        }
        edges.on(() -> {
            ChairBallot x = new ChairBallot();
            x.sheet(0, 1, 0);
            return x;
        });
        edges.leaves("of no cells", LOST, 3, x -> x.cell(0, 0, 1));
        edges.leaves("of no cells, as another lane", LOST, 2, x -> x.cell(0, 0, 0));
    }

    private void refusalsOfCopy() {
        due.promise("25 copy");
        edges.on(Edges::four);
        edges.refusesEach("the first", Edges.beyond(0, 3), UNKNOWN, (x, k) -> x.copy(k, 0, 0, 0, 1));
        edges.refusesEach("the other", Edges.beyond(0, 3), UNKNOWN, (x, k) -> x.copy(0, 0, k, 0, 1));
        edges.refuses("both", UNKNOWN, x -> x.copy(4, 0, -1, 0, 1));
    }

    /** Sheets 0 and 1 have rows of bytes, of four and three cells, 2 one of shorts, 3 nothing. */
    private static ChairBallot rows() {
        ChairBallot x = Beach.with("f;p010;b020");
        Beach.write(x, 0, Beach.BYTES, 1, 2, 3, 4);
        Beach.write(x, 1, Beach.BYTES, 5, 6, 7);
        Beach.write(x, 2, Beach.SHORTS, 8, 9, 10, 11);
        x.put(3, 0, 0);
        return x;
    }

    private void faultsOfCopy() {
        due.promise("25 copy: faults");
        edges.on(SheetsEdgesTest::rows);
        edges.faultsEach("the first has nothing", new int[] {0, 1, 2}, NULL, (x, k) -> x.copy(3, 0, k, 0, 0));
        edges.faultsEach("the other has nothing", new int[] {0, 1, 2}, NULL, (x, k) -> x.copy(k, 0, 3, 0, 0));
        edges.faults("the same has nothing", NULL, x -> x.copy(3, 0, 3, 0, 0));
        edges.faults("bytes to shorts", CAST, x -> x.copy(0, 0, 2, 0, 1));
        edges.faults("shorts to bytes", CAST, x -> x.copy(2, 0, 1, 0, 1));
        edges.faults("unlike lanes, none", CAST, x -> x.copy(2, 0, 0, 0, 0));
        edges.on(Edges::four);
        edges.faults("bytes to ints", CAST, x -> x.copy(0, 0, 2, 0, 1));
        edges.faults("ints to shorts", CAST, x -> x.copy(2, 0, 1, 0, 1));
        edges.faults("shorts to ints", CAST, x -> x.copy(1, 0, 2, 0, 1));
    }

    private void indicesOfCopy() {
        due.promise("25 copy: index");
        edges.on(SheetsEdgesTest::rows);
        int[] below = {-1, -2, LEAST};
        edges.faultsEach("n", below, INDEX, (x, n) -> x.copy(0, 0, 1, 0, n));
        edges.faultsEach("n, the same", below, INDEX, (x, n) -> x.copy(0, 2, 0, 1, n));
        edges.faultsEach("n", new int[] {4, 5, GREATEST}, INDEX, (x, n) -> x.copy(0, 0, 1, 0, n));
        edges.faultsEach("n of the first", new int[] {4, 5, GREATEST}, INDEX, (x, n) -> x.copy(1, 0, 0, 0, n));
        edges.faultsEach("i, none", Edges.beyond(0, 4), INDEX, (x, i) -> x.copy(0, i, 1, 0, 0));
        edges.faultsEach("j, none", Edges.beyond(0, 3), INDEX, (x, j) -> x.copy(0, 0, 1, j, 0));
        edges.faultsEach("i, one", Edges.beyond(0, 3), INDEX, (x, i) -> x.copy(0, i, 1, 0, 1));
        edges.faultsEach("j, one", Edges.beyond(0, 2), INDEX, (x, j) -> x.copy(0, 0, 1, j, 1));
        edges.faultsEach("i, three", Edges.beyond(0, 1), INDEX, (x, i) -> x.copy(0, i, 1, 0, 3));
        edges.faultsEach("j, three", Edges.beyond(0, 0), INDEX, (x, j) -> x.copy(0, 0, 1, j, 3));
        edges.faultsEach("i, the greatest n", new int[] {1, 4, GREATEST}, INDEX,
                (x, i) -> x.copy(0, i, 1, 0, GREATEST));
        edges.faultsEach("j, the greatest n", new int[] {1, 3, GREATEST}, INDEX,
                (x, j) -> x.copy(0, 0, 1, j, GREATEST));
        edges.faultsEach("i within one", Edges.beyond(0, 2), INDEX, (x, i) -> x.copy(0, i, 0, 0, 2));
        edges.faultsEach("j within one", Edges.beyond(0, 2), INDEX, (x, j) -> x.copy(0, 0, 0, j, 2));
    }

    private void twoAtOnceInCopy() {
        due.promise("25 copy: the first that is told");
        edges.on(SheetsEdgesTest::rows);
        edges.refuses("no first, nothing", UNKNOWN, x -> x.copy(4, 0, 3, 0, 1));
        edges.refuses("nothing, no other", UNKNOWN, x -> x.copy(3, 0, -1, 0, 1));
        edges.refuses("no first, index", UNKNOWN, x -> x.copy(-1, -1, 0, -1, -1));
        edges.refuses("no other, index", UNKNOWN, x -> x.copy(0, -1, 4, -1, -1));
        edges.faults("nothing, index", NULL, x -> x.copy(3, -1, 0, 0, 1));
        edges.faults("nothing in the other, index", NULL, x -> x.copy(0, 0, 3, 0, -1));
        edges.faults("nothing in the other, index of the first", NULL, x -> x.copy(0, 5, 3, 0, 1));
        edges.faults("cast, i", CAST, x -> x.copy(0, -1, 2, 0, 1));
        edges.faults("cast, j", CAST, x -> x.copy(0, 0, 2, 5, 0));
        edges.faults("cast, n", CAST, x -> x.copy(0, 0, 2, 0, -1));
        edges.faults("cast, n beyond", CAST, x -> x.copy(2, 0, 1, 0, 4));
    }

    private void copiesOfNone() {
        due.promise("25 copy: none");
        edges.on(SheetsEdgesTest::rows);
        edges.refusesEach("i", new int[] {0, 1, 4}, 0, (x, i) -> x.copy(0, i, 1, 3, 0));
        edges.refusesEach("j", new int[] {0, 1, 3}, 0, (x, j) -> x.copy(0, 4, 1, j, 0));
        edges.refuses("within one", 0, x -> x.copy(2, 4, 2, 4, 0));
        edges.refuses("all where they are", 4, x -> x.copy(2, 0, 2, 0, 4));
        edges.on(() -> {
            ChairBallot x = new ChairBallot();
            x.sheet(0, 1, 0);
            x.sheet(1, 1, 0);
            return x;
        });
        edges.refuses("of no cells", 0, x -> x.copy(0, 0, 1, 0, 0));
        edges.refuses("of no cells, within one", 0, x -> x.copy(1, 0, 1, 0, 0));
        edges.faults("one of no cells", INDEX, x -> x.copy(0, 0, 1, 0, 1));
    }

    private void copiesOfAll() {
        due.promise("25 copy: sixty");
        int[] greatest = {127, 32767, GREATEST};
        for (int lane : ALL_LANES) {
            ChairBallot x = new ChairBallot();
            x.sheet(0, lane, 60);
            x.sheet(3, lane, 60);
            for (int i = 0; i < 60; i++) {
                x.put(0, i, greatest[lane] + i);
            }
            due.is("all", x.copy(0, 0, 3, 0, 60), 60);
            due.is("fault()", x.fault(), 0);
            due.is("the first", x.cell(3, 0, lane), greatest[lane]);
            due.is("the second, that was cut", x.cell(3, 1, lane), -greatest[lane] - 1);
            due.is("the last", x.cell(3, 59, lane), -greatest[lane] + 57);
            due.is("all but one, to the right", x.copy(3, 0, 3, 1, 59), 59);
            due.is("the first", x.cell(3, 0, lane), greatest[lane]);
            due.is("the second", x.cell(3, 1, lane), greatest[lane]);
            due.is("the last", x.cell(3, 59, lane), -greatest[lane] + 56);
            due.is("all but one, to the left", x.copy(3, 1, 3, 0, 59), 59);
            due.is("the second", x.cell(3, 1, lane), -greatest[lane] - 1);
            due.is("the last but one", x.cell(3, 58, lane), -greatest[lane] + 56);
            due.is("the last", x.cell(3, 59, lane), -greatest[lane] + 56);
            due.is("the first row stays", x.cell(0, 59, lane), -greatest[lane] + 57);
        }
    }

    private void copiesAsTheyWere() {
        due.promise("25 copy: as they were");
        for (int i = 0; i <= 5; i++) {
            for (int j = 0; j <= 5; j++) {
                for (int n = 0; n <= 5 - Math.max(i, j); n++) {
                    ChairBallot x = new ChairBallot();
                    Beach.write(x, 0, Beach.SHORTS, 10, 11, 12, 13, 14);
                    due.is("copy(0, " + i + ", 0, " + j + ", " + n + ")", x.copy(0, i, 0, j, n), n);
                    for (int c = 0; c < 5; c++) {
                        int from = c >= j && c < j + n ? c - j + i : c;
                        due.is("cell " + c, x.cell(0, c, Beach.SHORTS), 10 + from);
                    }
                }
            }
        }
    }

    private void tell() {
        due.promise("26 tell");
        edges.on(Edges::bare);
        edges.leaves("no front", UNKNOWN, x -> x.tell(0));
        edges.on(Edges::four);
        edges.leavesEach("chair", Edges.beyond(0, 3), UNKNOWN, (x, k) -> x.tell(k));
        edges.on(Edges::eight);
        edges.leavesEach("chair of eight", Edges.beyond(0, 7), UNKNOWN, (x, k) -> x.tell(k));
        for (int weight = 1; weight <= 9; weight++) {
            ChairBallot x = Beach.with("f;p010;s010;b010");
            int[] answers = {weight, weight + 100, 2 * weight + 100};
            int[] traces = {1, 63, 91327};
            for (int k = 0; k < 3; k++) {
                x.load(k, weight);
                ChairBallot y = Beach.with("f;" + "psb".charAt(k) + "0" + weight + "0;p010");
                due.is("tell, kind " + k + ", weight " + weight, y.tell(0), answers[k]);
                due.is("trace", y.trace(), traces[k]);
                due.is("tell(" + k + "), loaded", x.tell(k), answers[k]);
            }
            due.is("trace of all three", x.trace(), (63 * 923521) + 91327 + 961 * 923521);
        }
        ChairBallot x = Edges.four();
        due.is("a folded one", x.tell(3), 4);
        due.is("fault() is as it was", x.fault(), 2);
    }

    private void chalk() {
        due.promise("27 chalk");
        edges.on(Edges::bare);
        edges.leaves("no front", UNKNOWN, x -> x.chalk(0));
        edges.on(Edges::four);
        edges.leavesEach("chair", Edges.beyond(0, 3), UNKNOWN, (x, k) -> x.chalk(k));
        edges.on(Edges::eight);
        edges.leavesEach("chair of eight", Edges.beyond(0, 7), UNKNOWN, (x, k) -> x.chalk(k));
        for (int k = 0; k < 8; k++) {
            ChairBallot x = Edges.eight();
            due.is("chalk(" + k + ")", x.chalk(k), k % 3 == 2 ? 40 : k);
            due.is("trace", x.trace(), k % 3 == 2 ? 5 : 4);
            due.is("once more", x.chalk(k), k % 3 == 2 ? 40 : k);
            due.is("trace", x.trace(), k % 3 == 2 ? 160 : 128);
            due.is("fault() is as it was", x.fault(), 4);
        }
        ChairBallot x = Edges.four();
        due.is("a folded one", x.chalk(3), 3);
    }

    private void as() {
        due.promise("28 as");
        edges.on(Edges::bare);
        edges.refuses("no front, ahead of kind", UNKNOWN, x -> x.as(0, 3));
        edges.on(Edges::four);
        edges.refusesEach("chair", Edges.beyond(0, 3), UNKNOWN, (x, k) -> x.as(k, 0));
        edges.refusesEach("chair ahead of kind", Edges.beyond(0, 3), UNKNOWN, (x, k) -> x.as(k, 3));
        edges.refusesEach("kind", Edges.beyond(0, 2), OUTSIDE, (x, kind) -> x.as(0, kind));
        edges.refusesEach("kind of a broken one", Edges.beyond(0, 2), OUTSIDE, (x, kind) -> x.as(2, kind));
        edges.faultsEach("a plain one", new int[] {1, 2}, CAST, (x, kind) -> x.as(0, kind));
        edges.faults("a shaded one", CAST, x -> x.as(1, 2));
        edges.faultsEach("a plain one that is folded", new int[] {1, 2}, CAST, (x, kind) -> x.as(3, kind));
        edges.refuses("a plain one", 1, x -> x.as(0, 0));
        edges.refusesEach("a shaded one", new int[] {0, 1}, 1, (x, kind) -> x.as(1, kind));
        edges.refusesEach("a broken one", new int[] {0, 1, 2}, 1, (x, kind) -> x.as(2, kind));
        edges.on(Edges::eight);
        edges.refusesEach("chair of eight", Edges.beyond(0, 7), UNKNOWN, (x, k) -> x.as(k, 0));
        edges.refuses("the last of eight", 1, x -> x.as(7, 1));
        edges.faults("the last of eight", CAST, x -> x.as(7, 2));
    }

    private void traceThatWraps() {
        due.promise("29 trace");
        ChairBallot x = Beach.with("f;b010;p010");
        long trace = 0;
        for (int told = 0; told < 30; told++) {
            x.chalk(0);
            trace = (31 * trace + 5) % (1L << 32);
            due.is("behind " + (told + 1), x.trace(), trace >= 1L << 31 ? trace - (1L << 32) : trace);
        }
        ChairBallot y = Beach.with("f;b010;p010");
        int[] first = {5, 160, 4965, 153920, 4771525, 147917280, 290468389};
        for (int want : first) {
            y.chalk(0);
            due.is("told by hand", y.trace(), want);
        }
        y.chalk(0);
        due.is("told by hand", y.trace(), 414585472);
    }

    private void whatLeavesTraces() {
        due.promise("29 trace");
        ChairBallot x = Edges.eight();
        int trace = 0;
        int[][] bodies = {{1}, {2, 1}, {3, 2, 1, 1}};
        for (int k = 0; k < 8; k++) {
            x.tell(k);
            for (int body : bodies[k % 3]) {
                trace = 31 * trace + body;
            }
            due.is("tell(" + k + ")", x.trace(), trace);
            x.chalk(k);
            trace = 31 * trace + (k % 3 == 2 ? 5 : 4);
            due.is("chalk(" + k + ")", x.trace(), trace);
        }
        Beach.front(x, "f;p010;p020");
        due.is("it stays with a new front", x.trace(), trace);
        Beach.front(x, "f;p010;p02");
        x.rain();
        x.lose(1);
        due.is("it stays behind others", x.trace(), trace);
    }

    /** What each call that names faults tells behind a fault of its own, none, and a refusal. */
    private void faultOfEachCall() {
        due.promise("30 fault");
        Edges.Call[] faults = {x -> x.front(0, 1, 0, 3), x -> x.day(2, 2, 0, 3, 0), x -> x.sheet(0, 0, -1),
            x -> x.put(3, 0, 0), x -> x.cell(0, 3, 0), x -> x.copy(0, 0, 2, 0, 0), x -> x.as(1, 2)};
        int[] numbers = {2, 3, 4, 1, 3, 2, 2};
        Edges.Call[] none = {x -> x.front(1, 1, 0, 3), x -> x.day(2, 2, 0, 0, 0), x -> x.sheet(0, 0, 3),
            x -> x.put(2, 0, 0), x -> x.cell(0, 2, 0), x -> x.copy(0, 0, 0, 1, 1), x -> x.as(1, 1)};
        Edges.Call[] refused = {x -> x.front(0, 3, 0, 3), x -> x.day(2, 2, 0, 21, 0), x -> x.sheet(0, 0, 61),
            x -> x.put(4, 0, 0), x -> x.cell(0, 2, 3), x -> x.copy(0, 0, 4, 0, 0), x -> x.as(4, 2)};
        for (int c = 0; c < faults.length; c++) {
            for (int ahead = 0; ahead < faults.length; ahead++) {
                ChairBallot x = Edges.four();
                faults[ahead].on(x);
                due.is("call " + ahead, x.fault(), numbers[ahead]);
                due.is("it is told once more", x.fault(), numbers[ahead]);
                none[c].on(x);
                due.is("call " + c + " came to none", x.fault(), 0);
                faults[ahead].on(x);
                refused[c].on(x);
                due.is("call " + c + " was refused", x.fault(), 0);
                faults[c].on(x);
                due.is("call " + c, x.fault(), numbers[c]);
            }
        }
    }

    private void faultStaysBehindOthers() {
        due.promise("30 fault");
        Edges.Call[] others = {x -> x.ofChair(0, 0), x -> x.ofChair(9, 9), x -> x.paint(0, 0), x -> x.paint(0, 9),
            x -> x.load(0, 1), x -> x.load(0, 0), x -> x.poll(0), x -> x.poll(9), x -> x.turn(0, 0), x -> x.turn(3, 0),
            x -> x.gust(0, 10), x -> x.gust(9, 0), x -> x.rain(), x -> x.open(3), x -> x.open(0), x -> x.swing(),
            x -> x.blow(0), x -> x.blow(9), x -> x.wards(1, 0), x -> x.wards(9, 0), x -> x.power(0, 0),
            x -> x.power(9, 0), x -> x.reading(0, 0), x -> x.reading(0, 11), x -> x.back(1), x -> x.back(9),
            x -> x.weights(0), x -> x.weights(9), x -> x.kinds(0), x -> x.kinds(9), x -> x.odds(-1, 0),
            x -> x.odds(9, 0), x -> x.odds(3, 0), x -> x.lose(0), x -> x.lose(3), x -> x.lose(9), x -> x.tell(0),
            x -> x.tell(9), x -> x.chalk(0), x -> x.chalk(9), x -> x.trace(), x -> x.fault(), x -> x.many(0),
            x -> x.many(9)};
        for (int c = 0; c < others.length; c++) {
            ChairBallot x = Edges.four();
            others[c].on(x);
            due.is("call " + c + " names none", x.fault(), 2);
            ChairBallot y = Edges.eight();
            others[c].on(y);
            due.is("call " + c + " names none", y.fault(), 4);
            ChairBallot z = Edges.bare();
            others[c].on(z);
            due.is("call " + c + " names none, no front", z.fault(), 1);
        }
    }

    private void many() {
        due.promise("31 many");
        int[] four = {4, 1, 12, 2};
        int[] eight = {8, 0, 35, 8};
        for (int what = 0; what < 4; what++) {
            int one = what;
            edges.on(ChairBallot::new);
            edges.leaves("of a new one, " + what, 0, x -> x.many(one));
            edges.on(Edges::bare);
            edges.leaves("without a front, " + what, 0, x -> x.many(one));
            edges.on(Edges::four);
            edges.leaves("of four, " + what, four[what], x -> x.many(one));
            edges.on(Edges::eight);
            edges.leaves("of eight, " + what, eight[what], x -> x.many(one));
            edges.leavesEach("what", Edges.beyond(0, 3), OUTSIDE, (x, w) -> x.many(w));
        }
        edges.on(ChairBallot::new);
        edges.leavesEach("what, without a front", Edges.beyond(0, 3), OUTSIDE, (x, w) -> x.many(w));
        ChairBallot x = Beach.with("f;p010;s010;b010");
        due.is("votes of all kinds", x.many(2), 4);
        x.turn(0, 2);
        x.turn(1, 1);
        due.is("votes, whatever they look", x.many(2), 4);
        due.is("all are folded", x.rain() - x.many(1), 0);
    }

    /** An object is used for so many calls. */
    private void as512Calls() {
        due.promise("what it is: 512 calls");
        ChairBallot x = new ChairBallot();
        Beach.write(x, 0, Beach.BYTES, "f;s010;b090");
        x.front(0, 0, 0, 11);
        int calls = 13;
        int trace = 0;
        while (calls < 508) {
            due.is("tell", x.tell(1), 118);
            trace = 31 * (31 * (31 * (31 * trace + 3) + 2) + 1) + 1;
            calls++;
        }
        due.is("trace()", x.trace(), trace);
        due.is("swing()", x.swing(), 0);
        due.is("copy()", x.copy(0, 0, 0, 1, 10), 10);
        due.is("the last call", x.cell(0, 1, 0), 'f');
    }
}
