/**
 * Calls on objects whose state is known: what they answer, what fault() tells behind them, and that
 * they leave all else as it was. Each call has an object of its own, made anew.
 */
final class Edges {
    static final int UNKNOWN = -1, OUTSIDE = -2, STATE = -3, FULL = -4, NONE = -9;
    static final int NULL = -11, CAST = -12, INDEX = -13, SIZE = -14;
    static final int LEAST = Integer.MIN_VALUE, GREATEST = Integer.MAX_VALUE;
    static final long LOST = Long.MIN_VALUE;

    interface Made {
        ChairBallot anew();
    }

    interface Call {
        long on(ChairBallot x);
    }

    interface CallWith {
        long on(ChairBallot x, int v);
    }

    private final Due due;
    private Made made = ChairBallot::new;
    private int faultAhead = 0;
    private String ahead = "";

    Edges(Due due) {
        this.due = due;
    }

    /** The calls that follow are made on objects that are made so. */
    void on(Made made) {
        this.made = made;
        ChairBallot x = made.anew();
        faultAhead = x.fault();
        ahead = Seen.of(x);
    }

    /** A call that names no faults: it leaves fault() as it was, too. */
    void leaves(String told, long answer, Call call) {
        leaves(told, answer, faultAhead, call);
    }

    /** A call that names faults and is refused: fault() is 0 behind it. */
    void refuses(String told, long answer, Call call) {
        leaves(told, answer, 0, call);
    }

    /** A call that comes to a fault: -11 to -14 for the faults 1 to 4. */
    void faults(String told, long answer, Call call) {
        leaves(told, answer, (int) (-10 - answer), call);
    }

    void leaves(String told, long answer, int fault, Call call) {
        ChairBallot x = made.anew();
        due.is(told, call.on(x), answer);
        due.is("fault() behind " + told, x.fault(), fault);
        due.same("what is seen behind " + told, Seen.of(x), ahead);
    }

    void leavesEach(String told, int[] numbers, long answer, CallWith call) {
        for (int v : numbers) {
            leaves(told + ", of " + v, answer, x -> call.on(x, v));
        }
    }

    void refusesEach(String told, int[] numbers, long answer, CallWith call) {
        for (int v : numbers) {
            refuses(told + ", of " + v, answer, x -> call.on(x, v));
        }
    }

    void faultsEach(String told, int[] numbers, long answer, CallWith call) {
        for (int v : numbers) {
            faults(told + ", of " + v, answer, x -> call.on(x, v));
        }
    }

    /** The first numbers on both sides that are not from..to, and the last that there are. */
    static int[] beyond(int from, int to) {
        return new int[] {LEAST, from - 1, to + 1, GREATEST};
    }

    /** Sheets 0 to 2 have rows of bytes, shorts, ints; sheet 3 has nothing; the latest fault is 1. */
    static ChairBallot bare() {
        ChairBallot x = new ChairBallot();
        Beach.write(x, 0, Beach.BYTES, 5, -6, 7);
        Beach.write(x, 1, Beach.SHORTS, 'f', ';', 'p', '0', '1', '0');
        Beach.write(x, 2, Beach.INTS, 0, 2, 1, 0);
        x.put(3, 0, 0);
        return x;
    }

    /**
     * As bare, with four chairs: 0 and 1 meet and are for, with 9 votes, 2 is against, with 3, and 3
     * is folded, out to sea. Two readings, a trace; the latest fault is 2.
     */
    static ChairBallot four() {
        ChairBallot x = Beach.with("f;p151;s133;b262;p340");
        Beach.write(x, 0, Beach.BYTES, 5, -6, 7);
        Beach.write(x, 2, Beach.INTS, 0, 2, 1, 0);
        x.rain();
        x.open(0);
        x.open(1);
        x.open(2);
        x.reading(0, 5);
        x.reading(1, 4);
        x.tell(2);
        x.as(0, 2);
        return x;
    }

    /** As many chairs and readings as there can be; the latest fault is 4. */
    static ChairBallot eight() {
        ChairBallot x = Beach.with("f;p010;s121;b232;p343;s050;b161;p272;s383");
        for (int k = 0; k < 8; k++) {
            x.reading(k, x.ofChair(k, 5));
        }
        x.sheet(0, 0, -1);
        return x;
    }
}
