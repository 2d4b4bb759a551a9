import java.util.ArrayList;
import java.util.List;
import java.util.Random;

/** Promise 1, and rules 5 and 13 of LANGUAGE.md: each object answers as it would alone. */
public final class ObjectsTest {
    private static final int SCRIPTS = 60;

    private final Due due = new Due("ObjectsTest");
    private final List<List<Edges.Call>> scripts = new ArrayList<>();
    private final List<long[]> alone = new ArrayList<>();

    public static void main(String[] args) {
        ObjectsTest test = new ObjectsTest();
        test.newWhileAnotherIsInUse();
        test.writeScripts();
        test.theSameAgain();
        test.twoByTurns();
        test.manyByTurns();
        test.oneThatRests();
        test.due.end();
    }

    /** All that promise 1 says, of an object that has just been made. */
    private void isNew(String when, ChairBallot x) {
        due.is("fault(), " + when, x.fault(), 0);
        due.is("trace(), " + when, x.trace(), 0);
        for (int what = 0; what < 4; what++) {
            due.is("many(" + what + "), " + when, x.many(what), 0);
            due.is("poll(" + what + "), " + when, x.poll(what), -3);
        }
        due.is("ofChair(0, 0), " + when, x.ofChair(0, 0), -1);
        due.is("rain(), " + when, x.rain(), -3);
        due.is("back(1), " + when, x.back(1), -2);
        for (int k = 0; k < 4; k++) {
            due.is("put(" + k + ", 0, 0), " + when, x.put(k, 0, 0), -11);
            for (int lane = 0; lane < 3; lane++) {
                due.is("cell(" + k + ", 0, " + lane + "), " + when, x.cell(k, 0, lane), Long.MIN_VALUE);
                due.is("fault(), " + when, x.fault(), 1);
            }
            due.is("lose(" + k + "), " + when, x.lose(k), 0);
        }
    }

    private void newWhileAnotherIsInUse() {
        due.promise("1 a new object");
        isNew("the first one", new ChairBallot());
        List<Edges.Call> script = Script.of(1000);
        ChairBallot other = new ChairBallot();
        ChairBallot madeAhead = new ChairBallot();
        for (int c = 0; c < script.size(); c++) {
            script.get(c).on(other);
            isNew("behind " + (c + 1) + " calls on another one", new ChairBallot());
        }
        isNew("one that was made ahead of them", madeAhead);
        isNew("behind one that has all there can be", new ChairBallot());
    }

    private static long[] answers(List<Edges.Call> script) {
        ChairBallot x = new ChairBallot();
        long[] answers = new long[script.size()];
        for (int c = 0; c < answers.length; c++) {
            answers[c] = script.get(c).on(x);
        }
        return answers;
    }

    private void writeScripts() {
        for (int s = 0; s < SCRIPTS; s++) {
            scripts.add(Script.of(s));
            alone.add(answers(scripts.get(s)));
        }
    }

    private void isAsAlone(String how, int script, long[] answers) {
        for (int c = 0; c < answers.length; c++) {
            due.is("call " + c + " of script " + script + ", " + how, answers[c], alone.get(script)[c]);
        }
    }

    private void theSameAgain() {
        due.promise("rule 13: the same calls give the same answers");
        for (int s = 0; s < SCRIPTS; s++) {
            isAsAlone("again", s, answers(scripts.get(s)));
        }
    }

    /** Two objects, one call on each by turns; each has a script of its own, or both the same. */
    private void twoByTurns() {
        due.promise("1 a new object: two by turns");
        for (int s = 0; s + 1 < SCRIPTS; s++) {
            byTurns("by turns with the next script", s, s + 1);
            byTurns("by turns with the same script", s, s);
        }
    }

    private void byTurns(String how, int one, int two) {
        ChairBallot x = new ChairBallot();
        ChairBallot y = new ChairBallot();
        long[] ofX = new long[scripts.get(one).size()];
        long[] ofY = new long[scripts.get(two).size()];
        for (int c = 0; c < Math.max(ofX.length, ofY.length); c++) {
            if (c < ofX.length) {
                ofX[c] = scripts.get(one).get(c).on(x);
            }
            if (c < ofY.length) {
                ofY[c] = scripts.get(two).get(c).on(y);
            }
        }
        isAsAlone(how + ", the first", one, ofX);
        isAsAlone(how + ", the second", two, ofY);
    }

    /** As many objects as scripts, the next call on any of them, some made late. */
    private void manyByTurns() {
        due.promise("1 a new object: many by turns");
        Random random = new Random(7);
        ChairBallot[] all = new ChairBallot[SCRIPTS];
        int[] made = new int[SCRIPTS];
        long[][] answers = new long[SCRIPTS][];
        int left = 0;
        for (int s = 0; s < SCRIPTS; s++) {
            answers[s] = new long[scripts.get(s).size()];
            left += answers[s].length;
        }
        while (left > 0) {
            int s = random.nextInt(SCRIPTS);
            if (made[s] < answers[s].length) {
                all[s] = all[s] == null ? new ChairBallot() : all[s];
                answers[s][made[s]] = scripts.get(s).get(made[s]).on(all[s]);
                made[s]++;
                left--;
            }
        }
        for (int s = 0; s < SCRIPTS; s++) {
            isAsAlone("by turns with all others", s, answers[s]);
        }
    }

    /** One that is left alone stays as it was, whatever others do. */
    private void oneThatRests() {
        due.promise("rule 5: no other static state");
        Edges edges = new Edges(due);
        for (int s = 0; s < SCRIPTS; s++) {
            int script = s;
            edges.on(s % 2 == 0 ? Edges::four : Edges::eight);
            edges.leaves("script " + s + " on another one", 0, x -> answers(scripts.get(script)).length == 0 ? 1 : 0);
        }
    }
}
