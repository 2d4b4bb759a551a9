import java.util.Random;

/** Runs of calls, drawn from fixed seeds: the class and the model must answer alike. */
public final class ModelTest {
    private static final int RUNS = 3000, CALLS = 512;
    private static final int[] EXTREMES = {Integer.MIN_VALUE, Integer.MIN_VALUE + 1, -100, -2, -1, 0, 1, 2, 59, 60, 61,
        100, 65536, Integer.MAX_VALUE - 1, Integer.MAX_VALUE};

    private final Due due;
    private final Random random;
    private final ChairBallot x = new ChairBallot();
    private final Model m = new Model();
    private int left = CALLS;

    private ModelTest(Due due, long seed) {
        this.due = due;
        random = new Random(seed);
    }

    public static void main(String[] args) {
        Due due = new Due("ModelTest");
        for (int run = 0; run < RUNS; run++) {
            due.promise("run " + run);
            new ModelTest(due, run).run();
            due.endIfWrong();
        }
        due.end();
    }

    private void run() {
        while (left > 0) {
            switch (random.nextInt(12)) {
                case 0 -> tellFront();
                case 1 -> tellDay();
                case 2 -> look();
                default -> call(random.nextInt(30));
            }
        }
    }

    private boolean may() {
        return left-- > 0;
    }

    private int below(int n) {
        return random.nextInt(n);
    }

    /** Mostly a number from..to, sometimes one just beside, seldom one far off. */
    private int number(int from, int to) {
        int draw = below(60);
        if (draw == 0) {
            return EXTREMES[below(EXTREMES.length)];
        }
        if (draw < 3) {
            return draw == 1 ? from - 1 : to + 1;
        }
        return from + below(to - from + 1);
    }

    private int chair() {
        int chairs = (int) m.many(0);
        return number(0, chairs == 0 ? 1 : chairs - 1);
    }

    private void due(String call, long got, long want, int... arguments) {
        StringBuilder told = new StringBuilder(call).append('(');
        for (int a = 0; a < arguments.length; a++) {
            told.append(a == 0 ? "" : ", ").append(arguments[a]);
        }
        due.is(told.append(')').toString(), got, want);
    }

    private String text() {
        int chairs = 2 + below(7);
        StringBuilder text = new StringBuilder("f");
        int looks = below(3);
        for (int k = 0; k < chairs; k++) {
            text.append(';').append("psb".charAt(below(3))).append(below(looks == 0 ? 2 : 4)).append(1 + below(9));
            text.append(looks == 1 ? 2 * below(2) : looks == 0 ? 1 + 2 * below(2) : below(4));
        }
        if (below(6) == 0) {
            text.setCharAt(below(text.length()), "f;psb01234569x".charAt(below(14)));
        }
        if (below(12) == 0) {
            text.setLength(below(text.length() + 1));
        }
        if (below(12) == 0) {
            text.append(below(2) == 0 ? ";p010" : ";");
        }
        return text.toString();
    }

    private void sheet(int k, int lane, int n) {
        if (may()) {
            due("sheet", x.sheet(k, lane, n), m.sheet(k, lane, n), k, lane, n);
        }
    }

    private void put(int k, int i, int v) {
        if (may()) {
            due("put", x.put(k, i, v), m.put(k, i, v), k, i, v);
        }
    }

    private void tellFront() {
        String text = text();
        int sheet = below(4);
        int lane = below(3);
        int from = below(3);
        sheet(sheet, lane, from + text.length());
        for (int i = 0; i < text.length(); i++) {
            put(sheet, from + i, text.charAt(i));
        }
        int i = number(from, from);
        int n = number(text.length(), text.length());
        int as = number(lane, lane);
        if (may()) {
            due("front", x.front(sheet, as, i, n), m.front(sheet, as, i, n), sheet, as, i, n);
        }
        fault();
    }

    private void tellDay() {
        int sheet = below(4);
        int lane = below(3);
        int pairs = below(6);
        sheet(sheet, lane, 2 * pairs + below(2));
        for (int pair = 0; pair < pairs; pair++) {
            int act = number(0, 9);
            put(sheet, 2 * pair, act >= 4 && act <= 7 ? number(0, 10) : act == 8 ? number(0, 0) : chair());
            put(sheet, 2 * pair + 1, act);
        }
        int i = number(0, 0);
        int as = number(lane, lane);
        for (int what = -1; what <= 18; what++) {
            if (below(2) == 0 && may()) {
                int n = below(4) == 0 ? number(0, pairs) : pairs;
                due("day", x.day(sheet, as, i, n, what), m.day(sheet, as, i, n, what), sheet, as, i, n, what);
            }
        }
        fault();
    }

    private void fault() {
        if (may()) {
            due("fault", x.fault(), m.fault());
        }
    }

    /** Looks at what there is: a change that should not be shows here. */
    private void look() {
        for (int what = 0; what < 5; what++) {
            if (may()) {
                due("many", x.many(what), m.many(what), what);
            }
            if (may()) {
                due("poll", x.poll(what), m.poll(what), what);
            }
        }
        int k = chair();
        for (int what = 0; what < 8; what++) {
            if (may()) {
                due("ofChair", x.ofChair(k, what), m.ofChair(k, what), k, what);
            }
        }
        fault();
    }

    private void call(int which) {
        if (!may()) {
            return;
        }
        int k = chair();
        int way = number(0, 3);
        int v = number(0, 10);
        int two = number(0, 1);
        switch (which) {
            case 0 -> paint(k);
            case 1 -> load(k);
            case 2, 3 -> due("turn", x.turn(k, way), m.turn(k, way), k, way);
            case 4 -> due("gust", x.gust(way, v), m.gust(way, v), way, v);
            case 5 -> rain();
            case 6, 7, 8 -> due("open", x.open(k), m.open(k), k);
            case 9 -> due("swing", x.swing(), m.swing());
            case 10 -> due("blow", x.blow(way), m.blow(way), way);
            case 11, 12 -> wards();
            case 13 -> due("power", x.power(way, two), m.power(way, two), way, two);
            case 14 -> reading(k, v);
            case 15 -> back();
            case 16 -> due("weights", x.weights(k), m.weights(k), k);
            case 17 -> due("kinds", x.kinds(k), m.kinds(k), k);
            case 18 -> odds(k, two);
            case 19 -> due("tell", x.tell(k), m.tell(k), k);
            case 20 -> due("chalk", x.chalk(k), m.chalk(k), k);
            case 21 -> as(k);
            case 22 -> due("trace", x.trace(), m.trace());
            default -> sheets(which);
        }
    }

    private void paint(int k) {
        int v = number(0, 3);
        due("paint", x.paint(k, v), m.paint(k, v), k, v);
    }

    private void load(int k) {
        int v = number(1, 9);
        due("load", x.load(k, v), m.load(k, v), k, v);
    }

    /** Seldom, for most that is asked is dull when all are folded. */
    private void rain() {
        if (below(2) == 0) {
            due("rain", x.rain(), m.rain());
        }
    }

    private void wards() {
        int n = number(1, 8);
        int k = number(-1, 7);
        due("wards", x.wards(n, k), m.wards(n, k), n, k);
    }

    /** Mostly what it has in truth, so that sets are not always empty. */
    private void reading(int k, int v) {
        int votes = below(4) == 0 ? v : (int) Math.max(0, m.ofChair(k, 5));
        due("reading", x.reading(k, votes), m.reading(k, votes), k, votes);
    }

    private void back() {
        int k = number(0, 3);
        due("back", x.back(k), m.back(k), k);
    }

    private void odds(int k, int which) {
        int one = below(3) == 0 ? -1 : k;
        due("odds", x.odds(one, which), m.odds(one, which), one, which);
    }

    private void as(int k) {
        int kind = number(0, 2);
        due("as", x.as(k, kind), m.as(k, kind), k, kind);
        fault();
    }

    private void sheets(int which) {
        int k = number(0, 3);
        int other = number(0, 3);
        int i = number(0, 5);
        int j = number(0, 5);
        int n = number(0, 5);
        int lane = number(0, 2);
        int v = random.nextInt() >> below(32);
        switch (which) {
            case 23 -> due("sheet", x.sheet(k, lane, i + j), m.sheet(k, lane, i + j), k, lane, i + j);
            case 24 -> due("lose", x.lose(k), m.lose(k), k);
            case 25 -> due("put", x.put(k, i, v), m.put(k, i, v), k, i, v);
            case 26 -> due("cell", x.cell(k, i, lane), m.cell(k, i, lane), k, i, lane);
            case 27, 28 -> due("copy", x.copy(k, i, other, j, n), m.copy(k, i, other, j, n), k, i, other, j, n);
            default -> due("front", x.front(k, lane, i, n), m.front(k, lane, i, n), k, lane, i, n);
        }
        if (which != 24 || below(2) == 0) {
            fault();
        }
    }
}
