/** Promises 21 to 31: sheets, parts. */
public final class SheetsTest {
    private static final int UNKNOWN = -1, OUTSIDE = -2;
    private static final int NULL = -11, CAST = -12, INDEX = -13, SIZE = -14;
    private static final long LOST = Long.MIN_VALUE;
    private static final String THREE = "f;p151;s133;b262";

    private final Due due = new Due("SheetsTest");

    public static void main(String[] args) {
        SheetsTest test = new SheetsTest();
        test.sheet();
        test.lose();
        test.put();
        test.cell();
        test.copy();
        test.copyWithinOne();
        test.faultsOfCopy();
        test.tell();
        test.chalk();
        test.as();
        test.trace();
        test.fault();
        test.many();
        test.due.end();
    }

    private void sheet() {
        due.promise("21 sheet");
        ChairBallot x = new ChairBallot();
        for (int k = 0; k < 4; k++) {
            for (int lane = 0; lane < 3; lane++) {
                due.is("sheet(" + k + ", " + lane + ", 60)", x.sheet(k, lane, 60), 1);
                due.is("fault", x.fault(), 0);
                due.is("its last cell", x.cell(k, 59, lane), 0);
                due.is("behind its last cell", x.cell(k, 60, lane), LOST);
            }
        }
        due.is("no cells", x.sheet(0, 0, 0), 1);
        due.is("no cells", x.put(0, 0, 1), INDEX);
        due.is("no such sheet ahead of lane", x.sheet(4, 3, 61), UNKNOWN);
        due.is("no such sheet", x.sheet(-1, 0, 1), UNKNOWN);
        due.is("no such lane, ahead of size", x.sheet(0, 3, -1), OUTSIDE);
        due.is("lane below 0", x.sheet(0, -1, 1), OUTSIDE);
        due.is("too many", x.sheet(0, 0, 61), OUTSIDE);
        due.is("a length below 0", x.sheet(1, 0, -1), SIZE);
        due.is("fault", x.fault(), 4);
        due.is("the row stays", x.cell(1, 59, 2), 0);
        due.is("the least length", x.sheet(1, 0, Integer.MIN_VALUE), SIZE);
        due.is("a refused one", x.sheet(1, 0, 61), OUTSIDE);
        due.is("fault of a refused one", x.fault(), 0);
        Beach.write(x, 2, 2, 7, 8, 9);
        x.sheet(2, 2, 4);
        for (int i = 0; i < 4; i++) {
            due.is("0 at first, cell " + i, x.cell(2, i, 2), 0);
        }
    }

    private void lose() {
        due.promise("22 lose");
        ChairBallot x = new ChairBallot();
        for (int k = 0; k < 4; k++) {
            due.is("it had nothing", x.lose(k), 0);
            x.sheet(k, 0, 0);
            due.is("it had a row", x.lose(k), 1);
            due.is("it has nothing", x.lose(k), 0);
            due.is("it has nothing", x.put(k, 0, 1), NULL);
        }
        due.is("lose(4)", x.lose(4), UNKNOWN);
        due.is("lose(-1)", x.lose(-1), UNKNOWN);
        due.is("it names no faults", x.fault(), 1);
    }

    private void put() {
        due.promise("23 put");
        ChairBallot x = new ChairBallot();
        due.is("no such sheet", x.put(4, 0, 0), UNKNOWN);
        due.is("no such sheet", x.put(-1, 0, 0), UNKNOWN);
        due.is("nothing ahead of index", x.put(0, -1, 0), NULL);
        due.is("fault", x.fault(), 1);
        int[] values = {0, 1, -1, 127, 128, -128, -129, 255, 300, 32767, 32768, 70001, -70001, Integer.MAX_VALUE,
            Integer.MIN_VALUE};
        for (int v : values) {
            for (int lane = 0; lane < 3; lane++) {
                x.sheet(0, lane, 2);
                due.is("put " + v, x.put(0, 1, v), 1);
                due.is("fault", x.fault(), 0);
                due.is("lane " + lane + " of " + v, x.cell(0, 1, lane), lane == 0 ? (byte) v : lane == 1 ? (short) v : v);
                due.is("the other cell", x.cell(0, 0, lane), 0);
            }
        }
        due.is("behind the end", x.put(0, 2, 5), INDEX);
        due.is("fault", x.fault(), 3);
        due.is("below 0", x.put(0, -1, 5), INDEX);
        due.is("far beyond", x.put(0, Integer.MAX_VALUE, 5), INDEX);
        due.is("far below", x.put(0, Integer.MIN_VALUE, 5), INDEX);
        due.is("a refused one", x.put(4, 0, 0), UNKNOWN);
        due.is("fault of a refused one", x.fault(), 0);
        due.is("nothing is changed", x.cell(0, 0, 2), 0);
    }

    private void cell() {
        due.promise("24 cell");
        ChairBallot x = new ChairBallot();
        Beach.write(x, 0, 1, 5, -6);
        due.is("cell(0, 0, 1)", x.cell(0, 0, 1), 5);
        due.is("cell(0, 1, 1)", x.cell(0, 1, 1), -6);
        faultOf(x, "no such sheet", x.cell(4, 0, 3), 0);
        faultOf(x, "another lane ahead of index", x.cell(0, 2, 0), 2);
        faultOf(x, "no such sheet", x.cell(-1, 0, 1), 0);
        faultOf(x, "nothing is no cast, ahead of index", x.cell(1, -1, 0), 1);
        faultOf(x, "no such lane", x.cell(0, 0, 3), 0);
        faultOf(x, "behind the end", x.cell(0, 2, 1), 3);
        faultOf(x, "no such lane of nothing", x.cell(1, 0, -1), 0);
        faultOf(x, "below 0", x.cell(0, -1, 1), 3);
        due.is("cell(0, 1, 1)", x.cell(0, 1, 1), -6);
        due.is("fault of one that came to none", x.fault(), 0);
    }

    private void faultOf(ChairBallot x, String what, long got, int fault) {
        due.is(what, got, LOST);
        due.is("fault: " + what, x.fault(), fault);
    }

    private void copy() {
        due.promise("25 copy");
        ChairBallot x = new ChairBallot();
        for (int lane = 0; lane < 3; lane++) {
            Beach.write(x, 0, lane, 1, 2, 3, 4);
            Beach.write(x, 3, lane, 5, 6, 7);
            due.is("copy(0, 1, 3, 0, 2)", x.copy(0, 1, 3, 0, 2), 2);
            due.is("fault", x.fault(), 0);
            row(x, 3, lane, 2, 3, 7);
            row(x, 0, lane, 1, 2, 3, 4);
            due.is("none", x.copy(0, 4, 3, 3, 0), 0);
            due.is("all", x.copy(3, 0, 0, 1, 3), 3);
            row(x, 0, lane, 1, 2, 3, 7);
        }
    }

    private void copyWithinOne() {
        due.promise("25 copy: as they were");
        ChairBallot x = new ChairBallot();
        Beach.write(x, 1, 2, 1, 2, 3, 4, 5);
        due.is("to the right", x.copy(1, 0, 1, 1, 4), 4);
        row(x, 1, 2, 1, 1, 2, 3, 4);
        due.is("to the left", x.copy(1, 2, 1, 0, 3), 3);
        row(x, 1, 2, 2, 3, 4, 3, 4);
        due.is("where they are", x.copy(1, 0, 1, 0, 5), 5);
        row(x, 1, 2, 2, 3, 4, 3, 4);
    }

    private void faultsOfCopy() {
        due.promise("25 copy: refusals and faults");
        ChairBallot x = new ChairBallot();
        Beach.write(x, 0, 1, 1, 2, 3, 4);
        Beach.write(x, 1, 1, 5, 6, 7);
        Beach.write(x, 2, 2, 8);
        due.is("no such first", x.copy(4, 0, 3, 0, 1), UNKNOWN);
        due.is("no such other, ahead of nothing", x.copy(3, 0, 4, 0, 1), UNKNOWN);
        due.is("no such first", x.copy(-1, 0, 0, 0, 1), UNKNOWN);
        due.is("no such other", x.copy(0, 0, -1, 0, 1), UNKNOWN);
        due.is("nothing first", x.copy(3, -1, 0, 0, 1), NULL);
        due.is("fault", x.fault(), 1);
        due.is("nothing as the other", x.copy(0, -1, 3, 0, 1), NULL);
        due.is("unlike lanes ahead of index", x.copy(0, -1, 2, 9, -1), CAST);
        due.is("fault", x.fault(), 2);
        due.is("unlike lanes, none taken", x.copy(2, 0, 0, 0, 0), CAST);
        due.is("a refused one", x.copy(4, 0, 3, 0, 1), UNKNOWN);
        due.is("fault of a refused one", x.fault(), 0);
        int[][] indices = {{-1, 0, 1}, {0, -1, 1}, {0, 0, -1}, {3, 0, 2}, {0, 2, 2}, {5, 0, 0}, {0, 4, 0}, {-1, 0, 0},
            {0, -1, 0}, {0, 0, 4}, {Integer.MAX_VALUE, 0, 1}, {1, 0, Integer.MAX_VALUE}, {0, Integer.MAX_VALUE, 1},
            {0, 0, Integer.MIN_VALUE}};
        for (int[] at : indices) {
            due.is("copy(0, " + at[0] + ", 1, " + at[1] + ", " + at[2] + ")", x.copy(0, at[0], 1, at[1], at[2]), INDEX);
            due.is("fault", x.fault(), 3);
        }
        row(x, 0, 1, 1, 2, 3, 4);
        row(x, 1, 1, 5, 6, 7);
        due.is("to the ends", x.copy(0, 2, 1, 1, 2), 2);
        row(x, 1, 1, 5, 3, 4);
    }

    private void row(ChairBallot x, int k, int lane, int... cells) {
        for (int i = 0; i < cells.length; i++) {
            due.is("cell " + i + " of " + k, x.cell(k, i, lane), cells[i]);
        }
        due.is("behind the row of " + k, x.cell(k, cells.length, lane), LOST);
    }

    private void tell() {
        due.promise("26 tell");
        ChairBallot x = new ChairBallot();
        due.is("no front", x.tell(0), UNKNOWN);
        int[] answers = {5, 103, 112};
        int[] traces = {1, 2 * 31 + 1, ((3 * 31 + 2) * 31 + 1) * 31 + 1};
        for (int k = 0; k < 3; k++) {
            x = Beach.with(THREE);
            due.is("tell(" + k + ")", x.tell(k), answers[k]);
            due.is("trace", x.trace(), traces[k]);
        }
        due.is("tell(3)", x.tell(3), UNKNOWN);
        due.is("tell(-1)", x.tell(-1), UNKNOWN);
        due.is("a refused one leaves nothing", x.trace(), traces[2]);
        x.load(2, 9);
        x.rain();
        due.is("a folded one", x.tell(2), 118);
    }

    private void chalk() {
        due.promise("27 chalk");
        ChairBallot x = new ChairBallot();
        due.is("no front", x.chalk(0), UNKNOWN);
        x = Beach.with("f;p010;s010;b010;s010;b010;p010;s010;p010");
        int[] answers = {0, 1, 40, 3, 40, 5, 6, 7};
        int trace = 0;
        for (int k = 0; k < 8; k++) {
            due.is("chalk(" + k + ")", x.chalk(k), answers[k]);
            trace = 31 * trace + (answers[k] == 40 ? 5 : 4);
            due.is("trace", x.trace(), trace);
        }
        due.is("chalk(8)", x.chalk(8), UNKNOWN);
        due.is("chalk(-1)", x.chalk(-1), UNKNOWN);
        due.is("a refused one leaves nothing", x.trace(), trace);
        x.rain();
        due.is("a folded one", x.chalk(7), 7);
    }

    private void as() {
        due.promise("28 as");
        ChairBallot x = new ChairBallot();
        due.is("no front", x.as(0, 3), UNKNOWN);
        x = Beach.with(THREE);
        for (int k = 0; k < 3; k++) {
            for (int kind = 0; kind < 3; kind++) {
                due.is("as(" + k + ", " + kind + ")", x.as(k, kind), kind <= k ? 1 : CAST);
                due.is("fault", x.fault(), kind <= k ? 0 : 2);
            }
        }
        x.as(0, 1);
        due.is("as(3, 3)", x.as(3, 3), UNKNOWN);
        due.is("fault of a refused one", x.fault(), 0);
        x.as(0, 1);
        due.is("as(0, 3)", x.as(0, 3), OUTSIDE);
        due.is("fault of a refused one", x.fault(), 0);
        due.is("as(0, -1)", x.as(0, -1), OUTSIDE);
        due.is("as(-1, 0)", x.as(-1, 0), UNKNOWN);
    }

    private void trace() {
        due.promise("29 trace");
        ChairBallot x = Beach.with(THREE);
        due.is("0 at first", x.trace(), 0);
        int trace = 0;
        for (int t = 0; t < 20; t++) {
            x.tell(1);
            trace = 31 * (31 * trace + 2) + 1;
            due.is("it wraps", x.trace(), trace);
        }
        x.as(1, 0);
        x.rain();
        due.is("the others leave nothing", x.trace(), trace);
    }

    private void fault() {
        due.promise("30 fault");
        ChairBallot x = new ChairBallot();
        due.is("0 ahead of any", x.fault(), 0);
        x = Beach.with(THREE);
        x.as(0, 2);
        due.is("a cast", x.fault(), 2);
        callsThatNameNone(x);
        due.is("calls that name none leave it", x.fault(), 2);
        x.front(1, 1, 0, 1);
        due.is("front came to none", x.fault(), 0);
        x.as(0, 2);
        x.front(1, 1, 0, 16);
        due.is("a text is taken", x.fault(), 0);
        x.as(0, 2);
        x.day(1, 1, 0, 0, 0);
        due.is("day came to none", x.fault(), 0);
        x.as(0, 2);
        x.sheet(0, 0, 3);
        due.is("sheet came to none", x.fault(), 0);
        x.as(0, 2);
        x.put(0, 0, 3);
        due.is("put came to none", x.fault(), 0);
        x.as(0, 2);
        x.cell(0, 0, 0);
        due.is("cell came to none", x.fault(), 0);
        x.as(0, 2);
        x.copy(0, 0, 0, 1, 1);
        due.is("copy came to none", x.fault(), 0);
        x.as(0, 2);
        x.as(0, 0);
        due.is("as came to none", x.fault(), 0);
    }

    private void callsThatNameNone(ChairBallot x) {
        x.ofChair(9, 0);
        x.paint(0, 9);
        x.load(0, 9);
        x.poll(0);
        x.turn(0, 0);
        x.gust(0, 1);
        x.rain();
        x.open(0);
        x.swing();
        x.blow(0);
        x.wards(1, 0);
        x.power(0, 9);
        x.reading(0, 0);
        x.back(1);
        x.weights(0);
        x.kinds(0);
        x.odds(0, 9);
        x.lose(3);
        x.lose(4);
        x.tell(0);
        x.chalk(0);
        x.trace();
        x.many(9);
    }

    private void many() {
        due.promise("31 many");
        ChairBallot x = new ChairBallot();
        counted(x, 0, 0, 0, 0);
        x = Beach.with("f;p151;s133;b262;p311;s253");
        counted(x, 5, 0, 19, 0);
        x.reading(0, 1);
        x.rain();
        counted(x, 5, 5, 0, 1);
        x.open(4);
        x.open(2);
        counted(x, 5, 3, 9, 1);
        x.load(2, 1);
        counted(x, 5, 3, 7, 1);
        counted(Beach.with("f;p010;p120;p230;p340"), 4, 0, 10, 0);
        counted(Beach.with("f" + ";s090".repeat(8)), 8, 0, 80, 0);
        due.is("many(-1)", x.many(-1), OUTSIDE);
        due.is("many(4)", x.many(4), OUTSIDE);
    }

    private void counted(ChairBallot x, int... answers) {
        for (int what = 0; what < answers.length; what++) {
            due.is("many(" + what + ")", x.many(what), answers[what]);
        }
    }
}
