/** The boundary cases of "Status and reset" and of promises 13 to 15, sentence by sentence. */
public final class BoundaryTraceTest {
    public static void main(String[] args) {
        whatResets();
        whatDoesNotReset();
        gettersChangeNothing();
        theStatus();
        neverNoSecret();
        lengthsOfTraces();
        noTraceWithoutAttack();
        staleTraces();
        valuesOfDeclaredVariables();
        valuesAreIds();
        Check.end();
    }

    private static void whatResets() {
        Check.sentence("Status and reset: a new cell by atom or variable; learn, addStep or setSecret answering true");
        Scene.resets("atom", Scene.OWN_CELLS, x -> x.atom(false));
        Scene.resets("variable", Scene.OWN_CELLS, x -> x.variable(0));
        Scene.resets("learn", 1, x -> Scene.number(x.learn(Scene.SENT)));
        Scene.resets("addStep", 1, x -> Scene.number(x.addStep(2, false, Scene.SENT)));
        Scene.resets("setSecret", 1, x -> Scene.number(x.setSecret(Scene.WITH_VARIABLE)));
    }

    private static void whatDoesNotReset() {
        Check.sentence("Status and reset: refused calls change nothing");
        Scene.refused("atom", Scene.ALL, -1, x -> x.atom(false));
        Scene.refused("variable", Scene.ALL - Scene.VARIABLES, -1, x -> x.variable(0));
        Scene.refused("compose", Scene.ALL, -1, x -> x.compose(3, 63, 0));
        Scene.refused("learn", Scene.ALL, 0, x -> Scene.number(x.learn(Scene.SPY)));
        Scene.refused("addStep", Scene.ALL, 0, x -> Scene.number(x.addStep(1, true, Scene.SPY)));
        Scene.refused("setSecret", Scene.ALL, 0, x -> Scene.number(x.setSecret(64)));
        Scene.refusedBy("search", Scene.sceneWithoutSecret(Scene.ALL), 3, IntruderSearch::search);
    }

    private static void gettersChangeNothing() {
        Check.sentence("Status and reset: getters change nothing");
        int[] scenes = {Scene.NOTHING, Scene.ALL};
        for (int full : scenes) {
            Scene.refused("all getters at all edges", full, 0, BoundaryTraceTest::readAll);
            for (int status = 0; status <= 2; status++) {
                // Making a scene reads its status and trace, before anything else could be compared.
                Scene.looksRight(Scene.make(full, status), full);
            }
        }
    }

    private static long readAll(IntruderSearch x) {
        for (int a : Check.edges()) {
            for (int b : Check.edges()) {
                x.cell(a, b);
                x.step(a, b);
            }
            x.known(a);
            x.derivable(a);
            x.traceThread(a);
            x.value(a);
        }
        x.secret();
        x.status();
        x.traceLength();
        return 0;
    }

    private static void theStatus() {
        Check.sentence("Status and reset: initially the status is NOT_SEARCHED");
        Check.due("status() of a new object", new IntruderSearch().status(), 0);
        Check.sentence("Promise 13: the status as set by the constructor, by the most recent reset, or by search");
        IntruderSearch x = new IntruderSearch();
        Check.due("status() at the start", x.status(), 0);
        x.atom(false);
        Check.due("status() after a reset of nothing", x.status(), 0);
        x.setSecret(0);
        Check.due("status() before searching", x.status(), 0);
        x.search();
        Check.due("status() after SAFE", x.status(), 1);
        x.addStep(0, true, 0);
        Check.due("status() after a reset of SAFE", x.status(), 0);
        x.search();
        Check.due("status() after ATTACK", x.status(), 2);
        x.compose(3, 0, 0);
        Check.due("status() after compose", x.status(), 2);
        x.learn(0);
        Check.due("status() after a reset of ATTACK", x.status(), 0);
        x.search();
        Check.due("status() after ATTACK again", x.status(), 2);
        Check.sentence("Promise 13: it changes nothing");
        for (int status = 0; status <= 2; status++) {
            Scene.refusedBy("status()", Scene.scene(0, status), status, IntruderSearch::status);
        }
    }

    private static void neverNoSecret() {
        Check.sentence("Promise 13: it never answers NO_SECRET");
        IntruderSearch x = Scene.withoutSecret(Scene.NOTHING);
        Check.due("search()", x.search(), 3);
        Check.same("outcome", Check.outcome(x), "status 0 " + Scene.NO_OUTCOME);
        IntruderSearch y = new IntruderSearch();
        Check.due("search() of an empty object", y.search(), 3);
        Check.due("status() of an empty object", y.status(), 0);
    }

    /** The secret is locked under all that is sent, up to three steps of thread 1 and three of thread 2. */
    private static IntruderSearch attackOf(int length) {
        IntruderSearch x = Scene.atoms(8);
        x.variable(0);
        int key = 0;
        for (int i = 0; i < length; i++) {
            x.addStep(i < 3 ? 1 : 2, true, i);
            key = i == 0 ? 0 : x.compose(3, key, i);
        }
        x.learn(length == 0 ? 6 : x.compose(4, 6, key));
        x.setSecret(6);
        return x;
    }

    private static void lengthsOfTraces() {
        int[] due = {1, 1, 1, 2, 2, 2};
        for (int length = 0; length <= 6; length++) {
            IntruderSearch x = attackOf(length);
            Check.sentence("Promise 14: traceLength() answers -1 if the status is not ATTACK");
            Check.due("before the search", x.traceLength(), -1);
            Check.due("search", x.search(), 2);
            Check.sentence("Promise 14: traceLength() answers the length L; with status ATTACK it is at least 0");
            Check.due("length of " + length, x.traceLength(), length);
            Check.sentence("Promise 14: traceThread(i) answers q_(i+1) when 0 <= i < L, in every other case -1");
            for (int i : Check.edges()) {
                Check.due("traceThread(" + i + ") of " + length, x.traceThread(i), i >= 0 && i < length ? due[i] : -1);
            }
            Check.same("replay", Replay.broken(x), "");
        }
        Check.sentence("Promise 14: neither changes anything");
        Scene.refused("traceThread(-1)", Scene.NOTHING, -1, x -> x.traceThread(-1));
        Scene.refused("traceThread(1)", Scene.NOTHING, -1, x -> x.traceThread(1));
        for (int status = 0; status <= 2; status++) {
            Scene.refusedBy("traceLength()", Scene.scene(0, status), status == 2 ? 1 : -1, IntruderSearch::traceLength);
            Scene.refusedBy("traceThread(0)", Scene.scene(0, status), status == 2 ? 1 : -1, x -> x.traceThread(0));
        }
    }

    private static void noTraceWithoutAttack() {
        for (int status = 0; status <= 1; status++) {
            IntruderSearch x = Scene.make(Scene.ALL, status);
            Check.sentence("Promise 14: the status is not ATTACK: -1");
            Check.due("traceLength()", x.traceLength(), -1);
            for (int i : Check.edges()) {
                Check.due("traceThread(" + i + ")", x.traceThread(i), -1);
            }
            Check.sentence("Promise 15: the status is not ATTACK: -1");
            for (int v : Check.edges()) {
                Check.due("value(" + v + ")", x.value(v), -1);
            }
        }
    }

    private static void staleTraces() {
        for (int length = 0; length <= 6; length++) {
            Check.sentence("Status and reset: with ATTACK, the least attack is held as the trace");
            IntruderSearch x = attackOf(length);
            Check.due("search", x.search(), 2);
            Check.due("length", x.traceLength(), length);
            Check.same("replay", Replay.broken(x), "");
            Check.sentence("Status and reset: a reset sets the status to NOT_SEARCHED and drops the trace");
            x.setSecret(x.secret());
            Check.same("after the reset", Check.outcome(x), "status 0 " + Scene.NO_OUTCOME);
            x.search();
            x.setSecret(7);
            Check.due("SAFE after an attack", x.search(), 1);
            Check.same("after SAFE", Check.outcome(x), "status 1 " + Scene.NO_OUTCOME);
            x.setSecret(6);
            x.search();
            x.setSecret(x.known(0));
            Check.due("a known secret after an attack", x.search(), 2);
            Check.same("no step of the longer trace is left", Check.outcome(x),
                "status 2 length 0 threads -1 -1 -1 -1 -1 -1 -1 -1 values -1 0 -1 -1 -1");
        }
    }

    private static void valuesOfDeclaredVariables() {
        for (int declared = 0; declared < 8; declared++) {
            IntruderSearch x = Scene.atoms(3);
            int key = 2;
            for (int v = 0; v < 3; v++) {
                if ((declared >> v & 1) != 0) {
                    key = x.compose(3, key, x.variable(v));
                }
            }
            x.addStep(0, true, 1);
            x.addStep(0, true, 2);
            x.setSecret(key);
            Check.due("search", x.search(), 2);
            for (int v : Check.edges()) {
                Check.sentence("Promise 15: -1 if v is outside 0..MAX_VARS-1, or v's VAR cell does not exist");
                boolean there = v >= 0 && v < 3 && (declared >> v & 1) != 0;
                Check.due("value(" + v + ") of " + declared, x.value(v), there ? 1 : -1);
            }
        }
        Check.sentence("Promise 15: it changes nothing");
        for (int v = -1; v <= 3; v++) {
            int asked = v;
            for (int status = 0; status <= 2; status++) {
                Scene.refusedBy("value(" + v + ")", Scene.scene(0, status), status == 2 && v == 1 ? Scene.SPY : -1,
                    x -> x.value(asked));
            }
        }
    }

    private static void valuesAreIds() {
        Check.sentence("Promise 15: value(v) answers the id of the ATOM cell that the trace's assignment gives to v");
        IntruderSearch x = new IntruderSearch();
        int v = x.variable(2);
        int first = x.atom(false);
        x.compose(3, first, first);
        Scene.fill(x, 63);
        int last = x.atom(false);
        x.learn(last);
        x.setSecret(v);
        Check.due("search", x.search(), 2);
        Check.due("id of the last cell", last, 63);
        Check.due("value(2)", x.value(2), 63);
        x.learn(first);
        Check.due("search", x.search(), 2);
        Check.due("value(2) with atom 0 known", x.value(2), first);
        Check.due("its kind", x.cell(x.value(2), 0), 1);
    }
}
