/** Promises 12 to 15 at their edges: what would carry it. */
public final class CarryEdgesTest {
    private static final int OUTSIDE = Edges.OUTSIDE, STATE = Edges.STATE, NONE = Edges.NONE;
    private static final long LOST = Edges.LOST;

    private final Due due = new Due("CarryEdgesTest");
    private final Edges edges = new Edges(due);

    public static void main(String[] args) {
        CarryEdgesTest test = new CarryEdgesTest();
        test.swingChangesNothing();
        test.swingOfNone();
        test.swingOfFoldedOnes();
        test.swingOfSeveral();
        test.swingOfThoseWhoMeet();
        test.refusalsOfBlow();
        test.blowsOfEachStrength();
        test.blowsThatHelpAndHinder();
        test.blowsPassFoldedOnes();
        test.refusalsOfWards();
        test.asManyWardsAsChairs();
        test.oneWard();
        test.wardsAreWonByMore();
        test.wardsKeepWhoMeets();
        test.theFirstOfSeveralWards();
        test.refusalsOfPower();
        test.powerOfNoVotes();
        test.halfIsNotMore();
        test.powerWhateverTheyLook();
        test.sharesInLeastTerms();
        test.due.end();
    }

    private void swings(String text, int set) {
        due.is("swing() of " + text, Beach.with(text).swing(), set);
    }

    private void swingChangesNothing() {
        due.promise("12 swing");
        edges.on(Edges::bare);
        edges.leaves("no front", STATE, x -> x.swing());
        edges.on(Edges::four);
        edges.leaves("carried already", 0, x -> x.swing());
        edges.on(Edges::eight);
        edges.leaves("one of eight is turned", 2, x -> x.swing());
        edges.on(() -> Beach.with("f;p052;s122;b231"));
        edges.leaves("one is turned", 1, x -> x.swing());
        edges.on(() -> {
            ChairBallot x = Edges.four();
            x.rain();
            return x;
        });
        edges.leaves("none can be turned", NONE, x -> x.swing());
    }

    private void swingOfNone() {
        due.promise("12 swing: carried already");
        swings("f;p020;p012", 0);
        swings("f;b010;p091", 0);
        swings("f;p011;p013;p012", 0);
        swings("f;p010;p012", 2);
        swings("f;p091;p093", 0);
        swings("f;p093;p091", 1);
        swings("f" + ";s090".repeat(8), 0);
    }

    private void swingOfFoldedOnes() {
        due.promise("12 swing: those that are not folded");
        for (int k = 0; k < 8; k++) {
            ChairBallot x = Beach.with("f" + ";p092".repeat(8));
            x.rain();
            due.is("all are folded", x.swing(), NONE);
            x.open(k);
            due.is("only " + k + " is not folded", x.swing(), 1 << k);
        }
        ChairBallot x = Beach.with("f;p090;p012;p012;p022");
        x.rain();
        x.open(1);
        x.open(2);
        due.is("both that are not folded", x.swing(), 6);
        x.open(3);
        due.is("a heavier one is opened, as many", x.swing(), 10);
        x.open(0);
        due.is("carried by one that is opened", x.swing(), 0);
    }

    private void swingOfSeveral() {
        due.promise("12 swing: the fewest, of several the least");
        swings("f;p052;p052", 3);
        swings("f;p052;p062", 2);
        swings("f;p062;p052", 1);
        swings("f;p031;p031;p031;p022", 1);
        swings("f;p021;p021;p022;p022;p012", 5);
        swings("f;p011;p051;p051;p091;p022;p022;p022;p032", 6);
        swings("f;p011;p011;p011;p011;p011;p022;p031;p012", 32);
        swings("f" + ";p012".repeat(7) + ";p092", 128);
        swings("f" + ";p012".repeat(6) + ";p092;p092", 64 + 128);
        swings("f" + ";p092".repeat(8), 31);
        swings("f" + ";p092".repeat(7), 15);
    }

    private void swingOfThoseWhoMeet() {
        due.promise("12 swing: turned all at once");
        swings("f;p151;p253", 1);
        swings("f;p041;p153;p042", 2);
        swings("f;p011;p153;p012", 2);
        swings("f;p091;p093;p292", 0);
        swings("f;p021;p023;p292;p392", 4);
        swings("f;p011;p013;p292;p392;p392", 12);
        swings("f;p031;p012;p033;p092", 8);
    }

    private void blows(String text, int... answers) {
        for (int way = 0; way < 4; way++) {
            due.is("blow(" + way + ") of " + text, Beach.with(text).blow(way), answers[way]);
        }
    }

    private void refusalsOfBlow() {
        due.promise("13 blow");
        edges.on(Edges::bare);
        edges.leavesEach("no front", new int[] {0, 1, 2, 3}, STATE, (x, way) -> x.blow(way));
        edges.leavesEach("no front ahead of way", Edges.beyond(0, 3), STATE, (x, way) -> x.blow(way));
        edges.on(Edges::four);
        edges.leavesEach("way", Edges.beyond(0, 3), OUTSIDE, (x, way) -> x.blow(way));
        edges.leavesEach("carried already", new int[] {0, 1, 2, 3}, 0, (x, way) -> x.blow(way));
        edges.on(() -> Beach.with("f;p052;s152;b232"));
        edges.leaves("to the sea", 6, x -> x.blow(0));
        edges.leavesEach("to other ways", new int[] {1, 2, 3}, NONE, (x, way) -> x.blow(way));
    }

    private void blowsOfEachStrength() {
        due.promise("13 blow: the least");
        for (int weight = 1; weight <= 9; weight++) {
            String chair = ";p0" + weight + "2";
            blows("f" + chair + chair, weight + 1, NONE, NONE, NONE);
            blows("f" + chair.repeat(8), weight + 1, NONE, NONE, NONE);
            String left = ";p0" + weight + "3";
            blows("f" + chair + left, weight + 1, NONE, NONE, NONE);
            blows("f;p091" + chair, weight + 1, NONE, NONE, weight == 9 ? NONE : weight + 1);
        }
        blows("f;p092;b091", 10, NONE, NONE, NONE);
        blows("f;p012;b091", 2, NONE, NONE, NONE);
        blows("f;b092;p052", 10, NONE, NONE, NONE);
        blows("f;s052;p062", 7, NONE, NONE, NONE);
        blows("f;s052;p052", 6, NONE, NONE, NONE);
    }

    private void blowsThatHelpAndHinder() {
        due.promise("13 blow");
        blows("f;p010;p011", 0, 0, 0, 0);
        blows("f;p010;p022", 3, NONE, NONE, NONE);
        blows("f;p030;p022;p012", 2, 2, NONE, 2);
        blows("f;p031;p022", 3, NONE, NONE, 3);
        blows("f;p032;p023", 4, NONE, NONE, NONE);
        blows("f;p022;p033", 3, 3, NONE, NONE);
        blows("f;p122;p033", 3, NONE, NONE, NONE);
        blows("f;p031;p022;p010", 3, NONE, NONE, 3);
    }

    private void blowsPassFoldedOnes() {
        due.promise("13 blow: folded ones");
        ChairBallot x = Beach.with("f;p012;p052");
        x.rain();
        for (int way = 0; way < 4; way++) {
            due.is("all are folded", x.blow(way), NONE);
        }
        x.open(1);
        due.is("the lighter one is folded", x.blow(0), 6);
        x.rain();
        x.open(0);
        due.is("the heavier one is folded", x.blow(0), 2);
        ChairBallot y = Beach.with("f;p011;p012");
        due.is("two come to meet", y.blow(3), NONE);
        due.is("heavier ones do", Beach.with("f;p021;p012").blow(3), 2);
        y.rain();
        due.is("not those who are folded", y.blow(3), NONE);
    }

    private void warded(String told, ChairBallot x, int n, int... answers) {
        for (int k = -1; k < 8; k++) {
            due.is(told + ": wards(" + n + ", " + k + ")", x.wards(n, k), k < n ? answers[k + 1] : NONE);
        }
    }

    private void refusalsOfWards() {
        due.promise("14 wards");
        edges.on(Edges::bare);
        edges.leaves("no front", STATE, x -> x.wards(1, 0));
        edges.leavesEach("no front ahead of n", Edges.beyond(1, 8), STATE, (x, n) -> x.wards(n, 0));
        edges.leavesEach("no front ahead of k", Edges.beyond(-1, 7), STATE, (x, k) -> x.wards(1, k));
        edges.on(Edges::four);
        edges.leavesEach("n", Edges.beyond(1, 8), OUTSIDE, (x, n) -> x.wards(n, -1));
        edges.leavesEach("k", Edges.beyond(-1, 7), OUTSIDE, (x, k) -> x.wards(1, k));
        edges.leavesEach("k, more wards than chairs", Edges.beyond(-1, 7), OUTSIDE, (x, k) -> x.wards(8, k));
        edges.leavesEach("n, no such ward", Edges.beyond(1, 8), OUTSIDE, (x, n) -> x.wards(n, 7));
        edges.leavesEach("more wards than chairs", new int[] {5, 6, 7, 8}, NONE, (x, n) -> x.wards(n, -1));
        edges.leavesEach("more wards than chairs", new int[] {5, 6, 7, 8}, NONE, (x, n) -> x.wards(n, 0));
        edges.leavesEach("no such ward", new int[] {4, 5, 6, 7}, NONE, (x, k) -> x.wards(4, k));
        edges.leavesEach("no such ward", new int[] {1, 2, 3, 4, 5, 6, 7}, NONE, (x, k) -> x.wards(1, k));
        edges.leaves("the last ward", 3, x -> x.wards(4, 3));
    }

    private void asManyWardsAsChairs() {
        due.promise("14 wards: as many as chairs");
        for (int chairs = 2; chairs <= 8; chairs++) {
            ChairBallot x = Beach.with("f" + ";p010".repeat(chairs));
            for (int k = 0; k < chairs; k++) {
                due.is(chairs + " chairs, ward " + k, x.wards(chairs, k), k);
            }
            due.is(chairs + " chairs, in how many", x.wards(chairs, -1), chairs);
            if (chairs < 8) {
                due.is("more wards than chairs", x.wards(chairs + 1, -1), NONE);
                due.is("more wards than chairs, ward 0", x.wards(chairs + 1, 0), NONE);
            }
        }
    }

    private void oneWard() {
        due.promise("14 wards: one");
        warded("carried", Beach.with("f;p020;p012"), 1, 1, 0);
        warded("not carried", Beach.with("f;p010;p012"), 1, 0, 0);
        warded("all of eight", Beach.with("f" + ";p092".repeat(7) + ";p010"), 1, 0, 0);
        ChairBallot x = Edges.eight();
        x.rain();
        warded("all are folded", x, 1, 0, 0);
        warded("all are folded", x, 8, 0, 0, 1, 2, 3, 4, 5, 6, 7);
        warded("all are folded", x, 3, 0, 0, 1, 2);
        x.open(0);
        warded("one is opened", x, 2, 1, 0, 1);
    }

    private void wardsAreWonByMore() {
        due.promise("14 wards: more votes for than against");
        warded("as many are not more", Beach.with("f;p050;p052;p051"), 1, 0, 0);
        warded("as many are not more", Beach.with("f;p050;p052;p051"), 2, 1, 0, 1);
        warded("one more", Beach.with("f;p060;p052;p051"), 1, 1, 0);
        warded("votes, not chairs", Beach.with("f;p010;p010;p032;p022"), 2, 1, 0, 1);
        warded("votes, not weights", Beach.with("f;p052;s050;p022;b060"), 2, 2, 0, 2);
        warded("all against", Beach.with("f;p012;p012;p012"), 2, 0, 0, 1);
        warded("one that is neither", Beach.with("f;p011;p011;p010"), 3, 1, 0, 1, 2);
    }

    private void wardsKeepWhoMeets() {
        due.promise("14 wards: as they are in the whole row");
        warded("those who meet are parted", Beach.with("f;p011;p013"), 2, 2, 0, 1);
        warded("those who meet are parted", Beach.with("f;p011;p113"), 2, 0, 0, 1);
        warded("two pairs", Beach.with("f;p011;p013;p011;p013"), 4, 4, 0, 1, 2, 3);
        warded("a cut makes none meet", Beach.with("f;p011;p010;p013"), 3, 1, 0, 1, 2);
    }

    private void theFirstOfSeveralWards() {
        due.promise("14 wards: of several the first");
        warded("all alike", Beach.with("f;p010;p010;p010;p010;p010"), 2, 2, 0, 1);
        warded("all alike", Beach.with("f;p010;p010;p010;p010;p010"), 3, 3, 0, 1, 2);
        warded("none", Beach.with("f" + ";p012".repeat(8)), 4, 0, 0, 1, 2, 3);
        warded("the first is the last", Beach.with("f;p092;p012;p012;p012;p012;p012;p012;p010"), 2, 1, 0, 7);
        warded("a later first cut, an earlier second one", Beach.with("f;p032;p030;p012;p012;p020"), 3, 2, 0, 1, 3);
        warded("the second as early as can be", Beach.with("f;p010;p012;p022;p040;p010"), 3, 3, 0, 1, 4);
        warded("the third as early as can be", Beach.with("f;p010;p010;p012;p022;p040;p010"), 4, 4, 0, 1, 2, 5);
    }

    private void powers(String text, long... answers) {
        ChairBallot x = Beach.with(text);
        for (int a = 0; a < answers.length; a++) {
            due.is("power(" + a / 2 + ", " + a % 2 + ") of " + text, x.power(a / 2, a % 2), answers[a]);
        }
    }

    private void refusalsOfPower() {
        due.promise("15 power");
        edges.on(Edges::bare);
        edges.leavesEach("no front", new int[] {0, 1, 2, 3}, LOST, (x, stripe) -> x.power(stripe, 0));
        edges.leavesEach("no front, upper, lower", new int[] {0, 1, 2, -1}, LOST, (x, which) -> x.power(0, which));
        edges.on(Edges::four);
        edges.leavesEach("stripe", Edges.beyond(0, 3), LOST, (x, stripe) -> x.power(stripe, 0));
        edges.leavesEach("which", Edges.beyond(0, 1), LOST, (x, which) -> x.power(0, which));
        edges.leaves("the last stripe", 1, x -> x.power(3, 1));
    }

    private void powerOfNoVotes() {
        due.promise("15 power: none");
        ChairBallot x = Edges.eight();
        x.rain();
        for (int stripe = 0; stripe < 4; stripe++) {
            due.is("all are folded: upper", x.power(stripe, 0), 0);
            due.is("all are folded: lower", x.power(stripe, 1), 1);
        }
        x.open(7);
        for (int stripe = 0; stripe < 4; stripe++) {
            due.is("one is opened: upper", x.power(stripe, 0), stripe == 3 ? 1 : 0);
            due.is("one is opened: lower", x.power(stripe, 1), 1);
        }
        powers("f;p210;p210", 0, 1, 0, 1, 1, 1, 0, 1);
        powers("f;b010;p310", 1, 2, 0, 1, 0, 1, 1, 2);
    }

    private void halfIsNotMore() {
        due.promise("15 power: half and more than half");
        powers("f;p010;p110", 1, 2, 1, 2, 0, 1, 0, 1);
        powers("f;p020;p110;p210", 3, 4, 1, 4, 1, 4, 0, 1);
        powers("f;p010;p110;p210", 1, 2, 1, 2, 1, 2, 0, 1);
        powers("f;p030;p110;p210;p310", 7, 8, 1, 8, 1, 8, 1, 8);
        powers("f;p040;p110;p210;p310", 1, 1, 0, 1, 0, 1, 0, 1);
        powers("f;p020;p120;p210;p310", 1, 2, 1, 2, 1, 4, 1, 4);
        powers("f;p020;p110;p210;p310", 3, 4, 1, 4, 1, 4, 1, 4);
        powers("f;p010;p110;p210;p310", 3, 8, 3, 8, 3, 8, 3, 8);
    }

    private void powerWhateverTheyLook() {
        due.promise("15 power: whatever they look");
        for (int way = 0; way < 4; way++) {
            powers("f;p01" + way + ";p02" + way + ";p12" + way + ";p21" + way, 3, 4, 1, 4, 1, 4, 0, 1);
        }
        powers("f;p011;p023;p121;p213", 3, 4, 1, 4, 1, 4, 0, 1);
        powers("f;s021;b153;p213;b311", 1, 2, 1, 2, 1, 4, 1, 4);
        ChairBallot x = Edges.four();
        power(x, "one that is folded has none", 0, 1);
        x.paint(0, 3);
        power(x, "another one gets its stripe", 1, 2);
        x.open(3);
        power(x, "it is opened", 1, 1);
        x.paint(3, 0);
        power(x, "it gets another stripe", 5, 8);
    }

    private void power(ChairBallot x, String told, long upper, long lower) {
        due.is(told + ": upper", x.power(3, 0), upper);
        due.is(told + ": lower", x.power(3, 1), lower);
    }

    private void sharesInLeastTerms() {
        due.promise("15 power: least terms");
        powers("f;p110;p110", 0, 1, 1, 1, 0, 1, 0, 1);
        powers("f;p020;p110;p210;p310", 3, 4, 1, 4, 1, 4, 1, 4);
        powers("f;p030;p120;p220;p310", 5, 8, 3, 8, 3, 8, 1, 8);
    }
}
