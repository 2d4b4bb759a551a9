import java.util.ArrayList;
import java.util.List;
import java.util.Random;

/** A run of calls, drawn from a seed, that can be made on any object, one call after another. */
final class Script {
    /** Fewer than an object's 512 calls. */
    private static final int MOST_CALLS = 500, LONGEST_ACT = 44;

    private final Random random;
    private final List<Edges.Call> calls = new ArrayList<>();

    private Script(long seed) {
        random = new Random(seed);
    }

    static List<Edges.Call> of(long seed) {
        Script script = new Script(seed);
        script.tellFront();
        while (script.calls.size() + LONGEST_ACT <= MOST_CALLS) {
            switch (script.below(20)) {
                case 0 -> script.tellFront();
                case 1 -> script.tellDay();
                default -> script.calls.add(script.call());
            }
        }
        return script.calls;
    }

    private int below(int n) {
        return random.nextInt(n);
    }

    /** Seldom a number just beside from..to. */
    private int number(int from, int to) {
        return below(20) == 0 ? below(2) == 0 ? from - 1 : to + 1 : from + below(to - from + 1);
    }

    private void tellFront() {
        StringBuilder text = new StringBuilder("f");
        for (int left = 2 + below(7); left > 0; left--) {
            text.append(';').append("psb".charAt(below(3))).append(below(4)).append(1 + below(9)).append(below(4));
        }
        int[] codes = text.chars().toArray();
        int sheet = below(4);
        int lane = below(3);
        write(sheet, lane, codes);
        calls.add(x -> x.front(sheet, lane, 0, codes.length));
    }

    private void tellDay() {
        int[] cells = new int[2 * below(5)];
        for (int c = 0; c < cells.length; c += 2) {
            cells[c] = below(2);
            cells[c + 1] = cells[c] == 0 ? below(10) : below(8);
        }
        int sheet = below(4);
        int lane = below(3);
        write(sheet, lane, cells);
        for (int what : new int[] {0, 1, 2, 3, 4, 10, 12}) {
            calls.add(x -> x.day(sheet, lane, 0, cells.length / 2, what));
        }
    }

    private void write(int sheet, int lane, int[] cells) {
        calls.add(x -> x.sheet(sheet, lane, cells.length));
        for (int c = 0; c < cells.length; c++) {
            int i = c;
            calls.add(x -> x.put(sheet, i, cells[i]));
        }
    }

    private Edges.Call call() {
        int which = below(28);
        return which < 14 ? callOnChairs(which) : callOnTheRest(which);
    }

    private Edges.Call callOnChairs(int which) {
        int k = number(0, 3);
        int way = number(0, 3);
        int v = number(0, 10);
        return switch (which) {
            case 0 -> x -> x.ofChair(k, v);
            case 1 -> x -> x.paint(k, way);
            case 2 -> x -> x.load(k, v);
            case 3, 4 -> x -> x.poll(v / 2);
            case 5, 6 -> x -> x.turn(k, way);
            case 7 -> x -> x.gust(way, v);
            case 8 -> v < 4 ? x -> x.rain() : x -> x.fault();
            case 9, 10, 11 -> x -> x.open(k);
            case 12 -> x -> x.swing();
            default -> x -> x.blow(way);
        };
    }

    private Edges.Call callOnTheRest(int which) {
        int k = number(0, 3);
        int i = number(0, 6);
        int other = number(0, 3);
        int lane = number(0, 2);
        return switch (which) {
            case 14 -> x -> x.wards(i, lane - 1);
            case 15 -> x -> x.power(k, lane);
            case 16 -> x -> x.reading(k, i);
            case 17 -> x -> x.back(lane);
            case 18 -> x -> x.weights(k);
            case 19 -> x -> x.kinds(k);
            case 20 -> x -> x.odds(k - 1, lane);
            case 21 -> i == 0 ? x -> x.lose(k) : x -> x.trace();
            case 22 -> x -> x.put(k, i, 1000 * i);
            case 23 -> x -> x.cell(k, i, lane);
            case 24 -> x -> x.copy(k, i, other, lane, k);
            case 25 -> i < 3 ? x -> x.tell(k) : x -> x.chalk(k);
            case 26 -> x -> x.as(k, lane);
            default -> x -> x.many(other);
        };
    }
}
