import java.util.ArrayList;
import java.util.List;
import java.util.Objects;
import java.util.regex.Matcher;
import java.util.regex.Pattern;

/**
 * The document once more, in another form than the class: kinds are classes, sheets are arrays of
 * the machine, faults are what the machine throws, and questions are answered by trying all there is.
 */
final class Model {
    private static final int UNKNOWN = -1, OUTSIDE = -2, STATE = -3, FULL = -4, NONE = -9;
    private static final long LOST = Long.MIN_VALUE;
    private static final Pattern TEXT = Pattern.compile("f(;[psb][0-3][1-9][0-3]){2,8}");

    private interface Chalked {
        default int chalked(Model m, int number) {
            m.leave(4);
            return number;
        }
    }

    private static class Plain implements Chalked {
        int stripe;
        int weight;
        int look;
        boolean folded;

        int votes() {
            return weight;
        }

        int told(Model m) {
            m.leave(1);
            return weight;
        }

        final int toldAsPlain(Model m) {
            m.leave(1);
            return weight;
        }

        Plain twin() {
            Plain twin = make("psb".charAt(kind()));
            twin.stripe = stripe;
            twin.weight = weight;
            twin.look = look;
            twin.folded = folded;
            return twin;
        }

        int kind() {
            return 0;
        }
    }

    private static class Shaded extends Plain {
        @Override
        int votes() {
            return super.votes() + 1;
        }

        @Override
        int told(Model m) {
            m.leave(2);
            return super.told(m) + 100;
        }

        @Override
        int kind() {
            return 1;
        }
    }

    private static final class Broken extends Shaded {
        @Override
        int votes() {
            return super.votes() / 2;
        }

        @Override
        int told(Model m) {
            m.leave(3);
            return super.told(m) + toldAsPlain(m);
        }

        @Override
        public int chalked(Model m, int number) {
            m.leave(5);
            return 40;
        }

        @Override
        int kind() {
            return 2;
        }
    }

    private record Reading(int chair, int votes) {
    }

    private final Object[] sheets = new Object[4];
    private List<Plain> chairs = new ArrayList<>();
    private final List<Reading> readings = new ArrayList<>();
    private int trace;
    private int fault;

    private static Plain make(char letter) {
        return letter == 'p' ? new Plain() : letter == 's' ? new Shaded() : new Broken();
    }

    private void leave(int body) {
        trace = trace * 31 + body;
    }

    private boolean noChair(int k) {
        return k < 0 || k >= chairs.size();
    }

    private static boolean in(int v, int from, int to) {
        return from <= v && v <= to;
    }

    private static boolean has(int set, int k) {
        return (set & 1 << k) != 0;
    }

    // ---- faults, as the machine finds them

    private interface Machine {
        long run();
    }

    /** What a run of the machine answers; LOST, if it came to a fault, which is noted. */
    private long machine(Machine body) {
        fault = 0;
        try {
            return body.run();
        } catch (ArrayStoreException | ClassCastException e) {
            fault = 2;
        } catch (NullPointerException e) {
            fault = 1;
        } catch (NegativeArraySizeException e) {
            fault = 4;
        } catch (IndexOutOfBoundsException e) {
            fault = 3;
        }
        return LOST;
    }

    private long orFault(long answer) {
        return fault == 0 ? answer : -10 - fault;
    }

    /** The cells as an array of the machine that is made for them; n may be far too many. */
    private int[] taken(int sheet, int lane, int i, int n) {
        int[] cells = new int[Math.min(Math.max(n, 0), 60)];
        int length = Math.min(n, 61);
        if (lane == 0) {
            byte[] row = Objects.requireNonNull((byte[]) sheets[sheet]);
            byte[] some = new byte[length];
            System.arraycopy(row, i, some, 0, n);
            for (int c = 0; c < n; c++) {
                cells[c] = some[c];
            }
        } else if (lane == 1) {
            short[] row = Objects.requireNonNull((short[]) sheets[sheet]);
            short[] some = new short[length];
            System.arraycopy(row, i, some, 0, n);
            for (int c = 0; c < n; c++) {
                cells[c] = some[c];
            }
        } else {
            int[] row = Objects.requireNonNull((int[]) sheets[sheet]);
            int[] some = new int[length];
            System.arraycopy(row, i, some, 0, n);
            System.arraycopy(some, 0, cells, 0, n);
        }
        return cells;
    }

    // ---- 1

    long front(int sheet, int lane, int i, int n) {
        fault = 0;
        if (!in(sheet, 0, 3)) {
            return UNKNOWN;
        }
        if (!in(lane, 0, 2)) {
            return OUTSIDE;
        }
        return orFault(machine(() -> fromCodes(taken(sheet, lane, i, n))));
    }

    private long fromCodes(int[] codes) {
        StringBuilder text = new StringBuilder();
        for (int code : codes) {
            text.append(in(code, 0, 127) ? (char) code : '?');
            Matcher matcher = TEXT.matcher(text);
            if (!matcher.matches() && !matcher.hitEnd()) {
                return -100 - (text.length() - 1);
            }
        }
        if (!TEXT.matcher(text).matches()) {
            return -100 - text.length();
        }
        chairs = new ArrayList<>();
        readings.clear();
        for (String told : text.substring(2).split(";")) {
            Plain chair = make(told.charAt(0));
            chair.stripe = told.charAt(1) - '0';
            chair.weight = told.charAt(2) - '0';
            chair.look = told.charAt(3) - '0';
            chairs.add(chair);
        }
        return chairs.size();
    }

    private static int votes(Plain chair) {
        return chair.folded ? 0 : chair.votes();
    }

    /** How each counts: 1 for, 2 against, 0 neither. */
    private static int[] counts(List<Plain> row) {
        int[] counts = new int[row.size()];
        for (int k = 0; k < counts.length; k++) {
            Plain chair = row.get(k);
            counts[k] = chair.folded ? 0 : chair.look == 0 ? 1 : chair.look == 2 ? 2 : 0;
        }
        for (int k = 0; k + 1 < counts.length; k++) {
            Plain left = row.get(k);
            Plain right = row.get(k + 1);
            if (!left.folded && !right.folded && left.look == 1 && right.look == 3) {
                counts[k] = left.stripe == right.stripe ? 1 : 2;
                counts[k + 1] = counts[k];
            }
        }
        return counts;
    }

    private static int set(List<Plain> row, int side) {
        int set = 0;
        int[] counts = counts(row);
        for (int k = 0; k < counts.length; k++) {
            set |= counts[k] == side ? 1 << k : 0;
        }
        return set;
    }

    private static int sum(List<Plain> row, int set) {
        int sum = 0;
        for (int k = 0; k < row.size(); k++) {
            sum += has(set, k) ? votes(row.get(k)) : 0;
        }
        return sum;
    }

    private static boolean carried(List<Plain> row) {
        return sum(row, set(row, 1)) > sum(row, set(row, 2));
    }

    private static List<Plain> twin(List<Plain> row) {
        List<Plain> twin = new ArrayList<>();
        for (Plain chair : row) {
            twin.add(chair.twin());
        }
        return twin;
    }

    long ofChair(int k, int what) {
        if (noChair(k)) {
            return UNKNOWN;
        }
        Plain chair = chairs.get(k);
        return switch (what) {
            case 0 -> chair.kind();
            case 1 -> chair.stripe;
            case 2 -> chair.weight;
            case 3 -> chair.look;
            case 4 -> chair.folded ? 1 : 0;
            case 5 -> votes(chair);
            case 6 -> counts(chairs)[k];
            default -> OUTSIDE;
        };
    }

    long paint(int k, int v) {
        if (noChair(k)) {
            return UNKNOWN;
        }
        if (!in(v, 0, 3)) {
            return OUTSIDE;
        }
        int was = chairs.get(k).stripe;
        chairs.get(k).stripe = v;
        return was;
    }

    long load(int k, int v) {
        if (noChair(k)) {
            return UNKNOWN;
        }
        if (!in(v, 1, 9)) {
            return OUTSIDE;
        }
        int was = chairs.get(k).weight;
        chairs.get(k).weight = v;
        return was;
    }

    long poll(int what) {
        if (chairs.isEmpty()) {
            return STATE;
        }
        return switch (what) {
            case 0 -> sum(chairs, set(chairs, 1));
            case 1 -> sum(chairs, set(chairs, 2));
            case 2 -> carried(chairs) ? 1 : 0;
            case 3 -> set(chairs, 1);
            case 4 -> set(chairs, 2);
            default -> OUTSIDE;
        };
    }

    // ---- 2

    long turn(int k, int way) {
        if (noChair(k)) {
            return UNKNOWN;
        }
        if (!in(way, 0, 3)) {
            return OUTSIDE;
        }
        Plain chair = chairs.get(k);
        if (chair.folded) {
            return STATE;
        }
        int was = chair.look;
        chair.look = way;
        return was;
    }

    long gust(int way, int v) {
        if (chairs.isEmpty()) {
            return STATE;
        }
        if (!in(way, 0, 3) || !in(v, 0, 10)) {
            return OUTSIDE;
        }
        List<Plain> ahead = twin(chairs);
        gust(chairs, way, v);
        int changed = 0;
        for (int k = 0; k < chairs.size(); k++) {
            changed += chairs.get(k).look != ahead.get(k).look ? 1 : 0;
        }
        return changed;
    }

    private static void gust(List<Plain> row, int way, int v) {
        for (Plain chair : row) {
            if (!chair.folded && chair.weight < v) {
                chair.look = way;
            }
        }
    }

    private static int folded(List<Plain> row) {
        int set = 0;
        for (int k = 0; k < row.size(); k++) {
            set |= row.get(k).folded ? 1 << k : 0;
        }
        return set;
    }

    long rain() {
        if (chairs.isEmpty()) {
            return STATE;
        }
        int dry = chairs.size() - Integer.bitCount(folded(chairs));
        chairs.forEach(chair -> chair.folded = true);
        return dry;
    }

    long open(int k) {
        if (noChair(k)) {
            return UNKNOWN;
        }
        if (!chairs.get(k).folded) {
            return STATE;
        }
        chairs.get(k).folded = false;
        return Integer.bitCount(folded(chairs));
    }

    long day(int sheet, int lane, int i, int n, int what) {
        fault = 0;
        if (!in(sheet, 0, 3)) {
            return UNKNOWN;
        }
        if (!in(lane, 0, 2) || !in(n, 0, 20) || !in(what, 0, 4) && !in(what, 10, 17)) {
            return OUTSIDE;
        }
        if (chairs.isEmpty()) {
            return STATE;
        }
        return orFault(machine(() -> ofPairs(taken(sheet, lane, i, 2 * n), what)));
    }

    private long ofPairs(int[] cells, int what) {
        for (int c = 0; c < cells.length; c += 2) {
            int a = cells[c];
            int b = cells[c + 1];
            if (!in(b, 0, 9) || in(b, 4, 7) && !in(a, 0, 10) || b == 8 && a != 0) {
                return OUTSIDE;
            }
            if ((in(b, 0, 3) || b == 9) && noChair(a)) {
                return UNKNOWN;
            }
        }
        List<Plain> row = twin(chairs);
        int often = 0;
        for (int c = 0; c < cells.length; c += 2) {
            int a = cells[c];
            int b = cells[c + 1];
            if (in(b, 0, 3) && row.get(a).folded || b == 9 && !row.get(a).folded) {
                return what == 1 ? c / 2 : -100 - c / 2;
            }
            if (in(b, 0, 3)) {
                row.get(a).look = b;
            } else if (b == 9) {
                row.get(a).folded = false;
            } else if (b == 8) {
                row.forEach(chair -> chair.folded = true);
            } else {
                gust(row, b - 4, a);
            }
            often += carried(row) ? 1 : 0;
        }
        return switch (what) {
            case 0 -> sum(row, set(row, 1));
            case 1 -> NONE;
            case 2 -> sum(row, set(row, 2));
            case 3 -> folded(row);
            case 4 -> often;
            default -> noChair(what - 10) ? NONE : row.get(what - 10).look;
        };
    }

    // ---- 3

    long swing() {
        if (chairs.isEmpty()) {
            return STATE;
        }
        for (int size = 0; size <= chairs.size(); size++) {
            for (int set = 0; set < 1 << chairs.size(); set++) {
                if (Integer.bitCount(set) == size && (set & folded(chairs)) == 0) {
                    List<Plain> row = twin(chairs);
                    for (int k = 0; k < row.size(); k++) {
                        row.get(k).look = has(set, k) ? 0 : row.get(k).look;
                    }
                    if (carried(row)) {
                        return set;
                    }
                }
            }
        }
        return NONE;
    }

    long blow(int way) {
        if (chairs.isEmpty()) {
            return STATE;
        }
        if (!in(way, 0, 3)) {
            return OUTSIDE;
        }
        for (int v = 0; v <= 10; v++) {
            List<Plain> row = twin(chairs);
            gust(row, way, v);
            if (carried(row)) {
                return v;
            }
        }
        return NONE;
    }

    long wards(int n, int k) {
        if (chairs.isEmpty()) {
            return STATE;
        }
        if (!in(n, 1, 8) || !in(k, -1, 7)) {
            return OUTSIDE;
        }
        if (n > chairs.size() || k >= n) {
            return NONE;
        }
        List<int[]> rows = new ArrayList<>();
        allCuts(new int[n], 1, rows);
        int most = -1;
        int[] best = null;
        for (int[] row : rows) {
            int won = won(row);
            if (won > most) {
                most = won;
                best = row;
            }
        }
        return k == -1 ? most : best[k];
    }

    /** All rows of beginnings, the first one first. */
    private void allCuts(int[] begins, int ward, List<int[]> rows) {
        if (ward == begins.length) {
            rows.add(begins.clone());
            return;
        }
        for (int chair = begins[ward - 1] + 1; chair < chairs.size(); chair++) {
            begins[ward] = chair;
            allCuts(begins, ward + 1, rows);
        }
    }

    private int won(int[] begins) {
        int won = 0;
        for (int ward = 0; ward < begins.length; ward++) {
            int end = ward + 1 < begins.length ? begins[ward + 1] : chairs.size();
            int all = (1 << end) - (1 << begins[ward]);
            won += sum(chairs, set(chairs, 1) & all) > sum(chairs, set(chairs, 2) & all) ? 1 : 0;
        }
        return won;
    }

    long power(int stripe, int which) {
        if (!in(stripe, 0, 3) || !in(which, 0, 1) || chairs.isEmpty()) {
            return LOST;
        }
        int ways = 0;
        int pivots = 0;
        for (int set = 0; set < 16; set++) {
            if (has(set, stripe)) {
                continue;
            }
            double without = 0;
            double own = 0;
            double all = 0;
            for (Plain chair : chairs) {
                all += votes(chair);
                own += chair.stripe == stripe ? votes(chair) : 0;
                without += has(set, chair.stripe) ? votes(chair) : 0;
            }
            ways++;
            pivots += without <= all / 2 && without + own > all / 2 ? 1 : 0;
        }
        return least(pivots, ways, which);
    }

    private static long least(int upper, int lower, int which) {
        int divisor = 1;
        for (int d = 1; d <= lower; d++) {
            if (upper % d == 0 && lower % d == 0) {
                divisor = d;
            }
        }
        return (which == 0 ? upper : lower) / divisor;
    }

    // ---- 4

    long reading(int k, int v) {
        if (noChair(k)) {
            return UNKNOWN;
        }
        if (!in(v, 0, 10)) {
            return OUTSIDE;
        }
        if (readings.size() == 8) {
            return FULL;
        }
        readings.add(new Reading(k, v));
        return readings.size() - 1;
    }

    long back(int k) {
        if (!in(k, 0, readings.size())) {
            return OUTSIDE;
        }
        for (int times = 0; times < k; times++) {
            readings.remove(readings.size() - 1);
        }
        return readings.size();
    }

    private boolean allSo(int k, Plain instead) {
        for (Reading reading : readings) {
            Plain chair = reading.chair() == k ? instead : chairs.get(reading.chair());
            if (chair.votes() != reading.votes()) {
                return false;
            }
        }
        return true;
    }

    long weights(int k) {
        if (noChair(k)) {
            return UNKNOWN;
        }
        int set = 0;
        for (int weight = 1; weight <= 9; weight++) {
            Plain instead = chairs.get(k).twin();
            instead.weight = weight;
            set |= allSo(k, instead) ? 1 << weight : 0;
        }
        return set;
    }

    long kinds(int k) {
        if (noChair(k)) {
            return UNKNOWN;
        }
        int set = 0;
        for (int kind = 0; kind <= 2; kind++) {
            Plain instead = make("psb".charAt(kind));
            instead.weight = chairs.get(k).weight;
            set |= allSo(k, instead) ? 1 << kind : 0;
        }
        return set;
    }

    long odds(int k, int which) {
        if (chairs.isEmpty() || k != -1 && noChair(k) || !in(which, 0, 1)) {
            return LOST;
        }
        if (k != -1 && chairs.get(k).folded) {
            return LOST;
        }
        int ways = 0;
        int so = 0;
        for (int land = 0; land < 1 << chairs.size(); land++) {
            if ((land & folded(chairs)) != 0 || k != -1 && has(land, k)) {
                continue;
            }
            ways++;
            boolean carried = carried(left(land));
            so += k == -1 ? carried ? 1 : 0 : carried && !carried(left(land | 1 << k)) ? 1 : 0;
        }
        return least(so, ways, which);
    }

    private List<Plain> left(int land) {
        List<Plain> row = twin(chairs);
        for (int k = 0; k < row.size(); k++) {
            row.get(k).look = has(land, k) ? 2 : 0;
        }
        return row;
    }

    // ---- 5

    long sheet(int k, int lane, int n) {
        fault = 0;
        if (!in(k, 0, 3)) {
            return UNKNOWN;
        }
        if (!in(lane, 0, 2) || n > 60) {
            return OUTSIDE;
        }
        return orFault(machine(() -> {
            sheets[k] = lane == 0 ? new byte[n] : lane == 1 ? new short[n] : new int[n];
            return 1;
        }));
    }

    long lose(int k) {
        if (!in(k, 0, 3)) {
            return UNKNOWN;
        }
        boolean had = sheets[k] != null;
        sheets[k] = null;
        return had ? 1 : 0;
    }

    long put(int k, int i, int v) {
        fault = 0;
        if (!in(k, 0, 3)) {
            return UNKNOWN;
        }
        return orFault(machine(() -> {
            if (sheets[k] instanceof byte[] bytes) {
                bytes[i] = (byte) v;
            } else if (sheets[k] instanceof short[] shorts) {
                shorts[i] = (short) v;
            } else {
                ((int[]) sheets[k])[i] = v;
            }
            return 1;
        }));
    }

    long cell(int k, int i, int lane) {
        fault = 0;
        if (!in(k, 0, 3) || !in(lane, 0, 2)) {
            return LOST;
        }
        return machine(() -> lane == 0 ? ((byte[]) sheets[k])[i] : lane == 1 ? ((short[]) sheets[k])[i]
                : ((int[]) sheets[k])[i]);
    }

    long copy(int k, int i, int other, int j, int n) {
        fault = 0;
        if (!in(k, 0, 3) || !in(other, 0, 3)) {
            return UNKNOWN;
        }
        return orFault(machine(() -> {
            System.arraycopy(sheets[k], i, sheets[other], j, n);
            return n;
        }));
    }

    long tell(int k) {
        return noChair(k) ? UNKNOWN : chairs.get(k).told(this);
    }

    long chalk(int k) {
        return noChair(k) ? UNKNOWN : chairs.get(k).chalked(this, k);
    }

    long as(int k, int kind) {
        fault = 0;
        if (noChair(k)) {
            return UNKNOWN;
        }
        if (!in(kind, 0, 2)) {
            return OUTSIDE;
        }
        Class<?>[] classes = {Plain.class, Shaded.class, Broken.class};
        return orFault(machine(() -> classes[kind].cast(chairs.get(k)) != null ? 1 : 0));
    }

    long trace() {
        return trace;
    }

    long fault() {
        return fault;
    }

    long many(int what) {
        return switch (what) {
            case 0 -> chairs.size();
            case 1 -> Integer.bitCount(folded(chairs));
            case 2 -> sum(chairs, 255);
            case 3 -> readings.size();
            default -> OUTSIDE;
        };
    }
}
