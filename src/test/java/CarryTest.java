/** Promises 12 to 15: what would carry it. */
public final class CarryTest {
    private static final int OUTSIDE = -2, STATE = -3, NONE = -9;
    private static final long LOST = Long.MIN_VALUE;
    private static final String FIVE = "f;p151;s133;b262;p311;s253";

    private final Due due = new Due("CarryTest");

    public static void main(String[] args) {
        CarryTest test = new CarryTest();
        test.swing();
        test.blow();
        test.wards();
        test.refusalsOfWards();
        test.power();
        test.due.end();
    }

    private void swing() {
        due.promise("12 swing");
        due.is("no front", new ChairBallot().swing(), STATE);
        due.is("five chairs", Beach.with(FIVE).swing(), 4);
        due.is("carried already", Beach.with("f;p050;p042").swing(), 0);
        due.is("as many votes are not more", Beach.with("f;p050;p052").swing(), 2);
        due.is("one that is neither", Beach.with("f;p050;p051;p052").swing(), 2);
        due.is("the least of several", Beach.with("f;p091;p032;p091;p091").swing(), 1);
        due.is("two, the least of several", Beach.with("f;p012;p031;p092;p051;p052;p091").swing(), 4);
        due.is("the fewest, not the least", Beach.with("f;p011;p011;p011;p032;p051").swing(), 8);
        due.is("five of eight", Beach.with("f" + ";s092".repeat(8)).swing(), 31);
        due.is("turned all at once", Beach.with("f;p051;p153;p032").swing(), 1);
        due.is("only one of those who meet", Beach.with("f;p051;p193").swing(), 1);
        ChairBallot x = Beach.with(FIVE);
        x.rain();
        due.is("all are folded", x.swing(), NONE);
        x.open(2);
        due.is("only one that is not folded", x.swing(), 4);
        due.is("nothing is changed", Beach.looks(x), 13213);
        x.open(0);
        due.is("the least", x.swing(), 1);
        ChairBallot all = Beach.with("f;p012;p022");
        due.is("the one by which it is more", all.swing(), 2);
    }

    private void blow() {
        due.promise("13 blow");
        due.is("no front ahead of way", new ChairBallot().blow(4), STATE);
        ChairBallot carried = Beach.with("f;p050;p042");
        for (int way = 0; way < 4; way++) {
            due.is("carried already", carried.blow(way), 0);
        }
        due.is("blow(-1)", carried.blow(-1), OUTSIDE);
        due.is("blow(4)", carried.blow(4), OUTSIDE);
        ChairBallot x = Beach.with(FIVE);
        due.is("not carried", x.poll(2), 0);
        due.is("blow(0)", x.blow(0), 2);
        due.is("blow(1)", x.blow(1), NONE);
        due.is("blow(2)", x.blow(2), 2);
        due.is("blow(3)", x.blow(3), 2);
        due.is("nothing is changed", Beach.looks(x), 13213);
        due.is("the heaviest one", Beach.with("f;p092;p092").blow(0), 10);
        due.is("the lightest one", Beach.with("f;p012;p091").blow(0), 2);
        due.is("one that turns away", Beach.with("f;p050;p052").blow(1), NONE);
        due.is("two who come to meet", Beach.with("f;p012;p093").blow(1), 2);
        due.is("more is not always better", Beach.with("f;p022;p030;p012").blow(3), 2);
        x.rain();
        due.is("all are folded", x.blow(0), NONE);
    }

    private void wards() {
        due.promise("14 wards");
        ChairBallot x = Beach.with(FIVE);
        warded(x, 1, 0, 0);
        warded(x, 2, 1, 0, 1);
        warded(x, 3, 2, 0, 1, 2);
        warded(x, 4, 2, 0, 1, 2, 3);
        warded(x, 5, 2, 0, 1, 2, 3, 4);
        warded(Beach.with("f;p012;p030;p042;p060;p012"), 2, 2, 0, 2);
        warded(Beach.with("f;p012;p030;p042;p060;p012"), 3, 2, 0, 1, 2);
        warded(Beach.with("f;p012;p012;p030;p092;p012;p050"), 2, 1, 0, 3);
        warded(Beach.with("f;p012;p012;p030;p092;p012;p050"), 3, 2, 0, 3, 4);
        warded(Beach.with("f;p032;p020;p011;p020"), 2, 1, 0, 1);
        warded(Beach.with("f;p032;p020;p032;p020"), 3, 1, 0, 1, 2);
        warded(Beach.with("f;p012;p092;p052;p010"), 2, 1, 0, 3);
        warded(Beach.with("f;p022;p020;p010;p010"), 2, 2, 0, 3);
        warded(Beach.with("f;p011;p013;p092;p092"), 3, 2, 0, 1, 2);
        warded(Beach.with("f" + ";s090".repeat(8)), 8, 8, 0, 1, 2, 3, 4, 5, 6, 7);
        x.rain();
        warded(x, 3, 0, 0, 1, 2);
        warded(x, 1, 0, 0);
    }

    /** Answers: in how many it is so, then the chairs with which they begin. */
    private void warded(ChairBallot x, int n, int... answers) {
        for (int k = -1; k < 8; k++) {
            due.is("wards(" + n + ", " + k + ")", x.wards(n, k), k < n ? answers[k + 1] : NONE);
        }
    }

    private void refusalsOfWards() {
        due.promise("14 wards: refusals");
        due.is("no front ahead of n", new ChairBallot().wards(0, 8), STATE);
        ChairBallot x = Beach.with(FIVE);
        for (int k = -1; k < 8; k++) {
            for (int n = 6; n <= 8; n++) {
                due.is("wards(" + n + ", " + k + ")", x.wards(n, k), NONE);
            }
        }
        due.is("wards(0, 0)", x.wards(0, 0), OUTSIDE);
        due.is("wards(-1, 0)", x.wards(-1, 0), OUTSIDE);
        due.is("wards(9, 0)", x.wards(9, 0), OUTSIDE);
        due.is("wards(1, 8)", x.wards(1, 8), OUTSIDE);
        due.is("wards(1, -2)", x.wards(1, -2), OUTSIDE);
        due.is("wards(8, 8)", x.wards(8, 8), OUTSIDE);
    }

    private void power() {
        due.promise("15 power");
        due.is("no front", new ChairBallot().power(0, 0), LOST);
        ChairBallot x = Beach.with(FIVE);
        powers(x, 0, 1, 1, 2, 1, 2, 1, 2);
        powers(Beach.with("f;p010;p110;p210;p310"), 3, 8, 3, 8, 3, 8, 3, 8);
        powers(Beach.with("f;p050;p110;p210;p310"), 1, 1, 0, 1, 0, 1, 0, 1);
        powers(Beach.with("f;p031;p112;p213;p310"), 7, 8, 1, 8, 1, 8, 1, 8);
        powers(Beach.with("f;p031;s122;b243;p310"), 1, 2, 1, 2, 1, 2, 0, 1);
        powers(Beach.with("f;p010;p110"), 1, 2, 1, 2, 0, 1, 0, 1);
        powers(Beach.with("f;p010;p010;p110;p110;p012"), 1, 1, 0, 1, 0, 1, 0, 1);
        x.rain();
        powers(x, 0, 1, 0, 1, 0, 1, 0, 1);
        x.open(1);
        powers(x, 0, 1, 1, 1, 0, 1, 0, 1);
        due.is("power(-1, 0)", x.power(-1, 0), LOST);
        due.is("power(4, 0)", x.power(4, 0), LOST);
        due.is("power(0, -1)", x.power(0, -1), LOST);
        due.is("power(0, 2)", x.power(0, 2), LOST);
    }

    /** Answers: upper and lower number of stripes 0 to 3. */
    private void powers(ChairBallot x, long... answers) {
        for (int a = 0; a < answers.length; a++) {
            due.is("power(" + a / 2 + ", " + a % 2 + ")", x.power(a / 2, a % 2), answers[a]);
        }
    }
}
