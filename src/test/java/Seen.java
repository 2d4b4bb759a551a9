/**
 * All that can be seen of an object but its fault(), told in a text: what a call should have left
 * as it was and did not shows here. Looking takes back the readings and calls that name faults, so
 * an object is looked at once, at its end.
 */
final class Seen {
    private static final int SHEETS = 4, LANES = 3, MOST_CELLS = 60;

    private final ChairBallot x;
    private final StringBuilder told = new StringBuilder();

    private Seen(ChairBallot x) {
        this.x = x;
    }

    static String of(ChairBallot x) {
        Seen seen = new Seen(x);
        seen.tellCounts();
        seen.tellChairs();
        seen.tellSheets();
        seen.tellReadings();
        return seen.told.toString();
    }

    private void tellCounts() {
        told.append("trace ").append(x.trace()).append(", many");
        for (int what = 0; what < 4; what++) {
            told.append(' ').append(x.many(what));
        }
        told.append(", poll");
        for (int what = 0; what < 5; what++) {
            told.append(' ').append(x.poll(what));
        }
    }

    /** One chair more than there are, too. */
    private void tellChairs() {
        int chairs = x.many(0);
        for (int k = 0; k <= chairs; k++) {
            told.append("; chair ").append(k);
            for (int what = 0; what < 7; what++) {
                told.append(' ').append(x.ofChair(k, what));
            }
        }
    }

    private void tellSheets() {
        for (int k = 0; k < SHEETS; k++) {
            told.append("; sheet ").append(k);
            for (int lane = 0; lane < LANES; lane++) {
                tellRow(k, lane);
            }
        }
    }

    private void tellRow(int k, int lane) {
        long cell = x.cell(k, 0, lane);
        if (x.fault() == 1 || x.fault() == 2) {
            return;
        }
        told.append(" of lane ").append(lane).append(':');
        for (int i = 0; i <= MOST_CELLS && cell != Long.MIN_VALUE; i++) {
            told.append(' ').append(cell);
            cell = x.cell(k, i + 1, lane);
        }
    }

    private void tellReadings() {
        int chairs = x.many(0);
        for (int left = x.many(3); left >= 0; left--) {
            told.append("; by ").append(left).append(" readings");
            for (int k = 0; k < chairs; k++) {
                told.append(' ').append(x.weights(k)).append('/').append(x.kinds(k));
            }
            x.back(1);
        }
    }
}
