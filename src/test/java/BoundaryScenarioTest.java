/** The boundary cases of "Scenario" and of promises 6, 7, 9, 10 and 11, sentence by sentence. */
public final class BoundaryScenarioTest {
    private static final int[] OUTSIDE = {Integer.MIN_VALUE, Integer.MIN_VALUE + 1, -65, -64, -2, -1,
        Scene.OWN_CELLS, Scene.OWN_CELLS + 1, 63, 64, 65, 1 << 16, Integer.MAX_VALUE - 1, Integer.MAX_VALUE};
    private static final int[] NO_THREADS = {Integer.MIN_VALUE, -3, -2, -1, 3, 4, 6, 18, Integer.MAX_VALUE};

    public static void main(String[] args) {
        teaching();
        readingK0();
        addingAStep();
        readingAStep();
        theSecret();
        Check.end();
    }

    private static void teaching() {
        Check.sentence("Promise 6, 1: t is not a valid id: false, nothing changes");
        for (int t : OUTSIDE) {
            Scene.refused("learn(" + t + ")", Scene.NOTHING, 0, x -> Scene.number(x.learn(t)));
        }
        Scene.refused("learn(64) in a full table", Scene.CELLS, 0, x -> Scene.number(x.learn(64)));
        Scene.refused("learn(-1) in a full table", Scene.CELLS, 0, x -> Scene.number(x.learn(-1)));
        Check.sentence("Promise 6, 2: t is not ground: false, nothing changes");
        Scene.refused("learn a variable", Scene.NOTHING, 0, x -> Scene.number(x.learn(Scene.VARIABLE)));
        Scene.refused("learn with a variable", Scene.NOTHING, 0, x -> Scene.number(x.learn(Scene.WITH_VARIABLE)));
        Check.sentence("Promise 6, 3: K0 holds MAX_KNOWN terms: false, nothing changes");
        Scene.refused("a ninth term", Scene.KNOWN, 0, x -> Scene.number(x.learn(Scene.HIDDEN)));
        Scene.refused("a ninth term, a repeat", Scene.KNOWN, 0, x -> Scene.number(x.learn(Scene.SPY)));
        Check.sentence("Promise 6: two of the conditions at once");
        Scene.refused("a ninth term, no id", Scene.KNOWN, 0, x -> Scene.number(x.learn(-1)));
        Scene.refused("a ninth term, not ground", Scene.KNOWN, 0, x -> Scene.number(x.learn(Scene.VARIABLE)));
        Scene.refused("a ninth term, all is full", Scene.ALL, 0, x -> Scene.number(x.learn(Scene.HIDDEN)));
        eightTerms();
        Check.sentence("Promise 6: otherwise it resets and answers true");
        Scene.resets("learn(0)", 1, x -> Scene.number(x.learn(0)));
        Scene.resets("learn of a repeat", 1, x -> Scene.number(x.learn(Scene.SPY)));
        Scene.resets("learn of the largest", 1, x -> Scene.number(x.learn(Scene.SIZE_31)));
        learnLeavesTheRest();
    }

    private static void eightTerms() {
        Check.sentence("Promise 6: appends t to the end of K0; a repeat is kept as a further entry");
        int[] terms = {3, 0, 0, 1, 3, 3, 2, 3};
        IntruderSearch x = Scene.atoms(4);
        for (int i = 0; i < 8; i++) {
            Check.due("known(" + i + ") before", x.known(i), -1);
            Check.due("learn " + i, x.learn(terms[i]), true);
            for (int j = 0; j <= i; j++) {
                Check.due("known(" + j + ") of " + (i + 1), x.known(j), terms[j]);
            }
        }
        Check.sentence("Scenario: K0 is in the order learned, holds at most MAX_KNOWN entries, and repeats are kept");
        Check.same("K0", Check.known(x), " known 3 0 0 1 3 3 2 3");
        Check.due("learn once more", x.learn(0), false);
        Check.due("known(8)", x.known(8), -1);
        IntruderSearch y = Scene.atoms(1);
        for (int i = 0; i < 8; i++) {
            Check.due("the same term for the " + i + "th time", y.learn(0), true);
        }
        Check.due("the same term for the ninth time", y.learn(0), false);
        IntruderSearch z = Scene.atoms(1);
        Scene.fill(z, 64);
        Check.due("learn(63)", z.learn(63), true);
        Check.due("known(0)", z.known(0), 63);
    }

    private static void learnLeavesTheRest() {
        Check.sentence("Promise 6: the cells, the threads and the secret do not change");
        Scene.leaves("the first learn", Scene.cellsOnly(), "7 to learn, 6 steps, 5 atoms", 1,
            x -> Scene.number(x.learn(0)), Check::cells, Check::steps, x -> "" + x.secret());
        for (int status = 0; status <= 2; status++) {
            Scene.leaves("learn", Scene.make(Scene.NOTHING, status), "5 to learn, 2 steps, 5 atoms", 1,
                x -> Scene.number(x.learn(0)), Check::cells, Check::steps, x -> "" + x.secret());
        }
    }

    private static void readingK0() {
        for (int count = 0; count <= 8; count++) {
            IntruderSearch x = Scene.atoms(8);
            for (int i = 0; i < count; i++) {
                x.learn(7 - i);
            }
            Check.sentence("Promise 7: answers the id of the i-th term of K0 (counted from 0, in the order learned)");
            for (int i = 0; i < count; i++) {
                Check.due("known(" + i + ") of " + count, x.known(i), 7 - i);
            }
            Check.sentence("Promise 7: for every other i, negative ones included, it answers -1");
            for (int i : Check.edges()) {
                Check.due("known(" + i + ") of " + count, x.known(i), i >= 0 && i < count ? 7 - i : -1);
            }
        }
        Check.sentence("Promise 7: it changes nothing");
        int[] due = {-1, Scene.SPY, Scene.LOCKED, -1};
        for (int i = -1; i <= 2; i++) {
            int asked = i;
            Scene.refused("known(" + i + ")", Scene.NOTHING, due[i + 1], x -> x.known(asked));
        }
        Scene.refused("known(8)", Scene.KNOWN, -1, x -> x.known(8));
        Scene.refused("known(7)", Scene.KNOWN, Scene.SPY, x -> x.known(7));
    }

    private static void addingAStep() {
        Check.sentence("Promise 9, 1: thread is outside 0..2: false, nothing changes");
        for (int thread : NO_THREADS) {
            Scene.refused("send in " + thread, Scene.NOTHING, 0, x -> Scene.number(x.addStep(thread, true, 0)));
            Scene.refused("receive in " + thread, Scene.NOTHING, 0, x -> Scene.number(x.addStep(thread, false, 0)));
            Scene.refused("no id in " + thread, Scene.STEPS, 0, x -> Scene.number(x.addStep(thread, true, 64)));
        }
        Check.sentence("Promise 9, 2: t is not a valid id: false, nothing changes");
        for (int t : OUTSIDE) {
            for (int thread = 0; thread < 3; thread++) {
                int asked = thread;
                Scene.refused("send " + t, Scene.NOTHING, 0, x -> Scene.number(x.addStep(asked, true, t)));
                Scene.refused("receive " + t, Scene.NOTHING, 0, x -> Scene.number(x.addStep(asked, false, t)));
            }
        }
        Scene.refused("send 64 in a full table", Scene.CELLS, 0, x -> Scene.number(x.addStep(0, true, 64)));
        Check.sentence("Promise 9, 3: MAX_STEPS steps exist in all threads together: false, nothing changes");
        for (int thread = 0; thread < 3; thread++) {
            int asked = thread;
            Scene.refused("a seventh step", Scene.STEPS, 0, x -> Scene.number(x.addStep(asked, true, 3)));
            Scene.refused("a seventh step, receiving", Scene.ALL, 0, x -> Scene.number(x.addStep(asked, false, 3)));
        }
        everySplitOfSix();
        addedSteps();
        stepLeavesTheRest();
    }

    private static void everySplitOfSix() {
        Check.sentence("Scenario: at most MAX_STEPS steps over all threads together");
        for (int first = 0; first <= 6; first++) {
            for (int second = 0; first + second <= 6; second++) {
                int[] counts = {first, second, 6 - first - second};
                IntruderSearch x = Scene.atoms(8);
                int made = 0;
                for (int thread = 2; thread >= 0; thread--) {
                    for (int i = 0; i < counts[thread]; i++) {
                        Check.due("step " + made, x.addStep(thread, i % 2 == 0, made), true);
                        made++;
                    }
                }
                for (int thread = 0; thread < 3; thread++) {
                    Check.due("a seventh step", x.addStep(thread, true, 0), false);
                }
                stepsAreThere(x, counts);
            }
        }
    }

    /** The steps as the test above adds them: thread 2 first, sending and receiving by turns. */
    private static void stepsAreThere(IntruderSearch x, int[] counts) {
        Check.sentence("Promise 10: n_j is exactly the number of indexes for which step(j, index) does not answer -1");
        int made = 0;
        for (int thread = 2; thread >= 0; thread--) {
            for (int index : Check.edges()) {
                boolean there = index >= 0 && index < counts[thread];
                int due = there ? 2 * (made + index) + (index % 2 == 0 ? 1 : 0) : -1;
                Check.due("step(" + thread + ", " + index + ")", x.step(thread, index), due);
            }
            made += counts[thread];
        }
        Check.sentence("Scenario: each thread is a list of steps in the order of addStep");
        for (int t = 0; t < 6; t++) {
            int thread = t < counts[2] ? 2 : t < counts[2] + counts[1] ? 1 : 0;
            int index = t - (thread < 2 ? counts[2] : 0) - (thread < 1 ? counts[1] : 0);
            Check.due("term of step(" + thread + ", " + index + ")", x.step(thread, index) / 2, t);
        }
    }

    private static void addedSteps() {
        Check.sentence("Promise 9: otherwise it appends to the end of that thread's list, resets, and answers true");
        for (int thread = 0; thread < 3; thread++) {
            int asked = thread;
            Scene.resets("send in " + thread, 1, x -> Scene.number(x.addStep(asked, true, 0)));
            Scene.resets("receive in " + thread, 1, x -> Scene.number(x.addStep(asked, false, 0)));
            Check.sentence("Promise 9: the term t may contain variables");
            Scene.resets("a variable in " + thread, 1, x -> Scene.number(x.addStep(asked, true, Scene.VARIABLE)));
            Scene.resets("with a variable in " + thread, 1,
                x -> Scene.number(x.addStep(asked, false, Scene.WITH_VARIABLE)));
        }
    }

    private static void stepLeavesTheRest() {
        Check.sentence("Promise 9: the other threads, the cells, K0 and the secret do not change");
        String[] threads = {" steps 0 1 -1 -1 -1 -1 7 8 -1 -1 -1 -1 4 -1 -1 -1 -1 -1",
            " steps 0 -1 -1 -1 -1 -1 7 8 1 -1 -1 -1 4 -1 -1 -1 -1 -1",
            " steps 0 -1 -1 -1 -1 -1 7 8 -1 -1 -1 -1 4 1 -1 -1 -1 -1"};
        for (int thread = 0; thread < 3; thread++) {
            int asked = thread;
            Scene.leaves("the first addStep", Scene.cellsOnly(), "8 to learn, 5 steps, 5 atoms", 1,
                x -> Scene.number(x.addStep(asked, true, 0)), Check::cells, Check::known, x -> "" + x.secret());
            for (int status = 0; status <= 2; status++) {
                Scene.leaves("addStep", Scene.make(Scene.NOTHING, status), "6 to learn, 1 steps, 5 atoms", 1,
                    x -> Scene.number(x.addStep(asked, true, 0)), Check::cells, Check::known, x -> "" + x.secret());
                IntruderSearch x = Scene.make(Scene.NOTHING, status);
                x.addStep(thread, true, 0);
                Check.same("after a step in " + thread, Check.steps(x), threads[thread]);
            }
        }
    }

    private static void readingAStep() {
        Check.sentence("Promise 10: answers -1 if thread is outside 0..2");
        for (int thread : NO_THREADS) {
            for (int index = -1; index <= 6; index++) {
                int asked = index;
                Scene.refused("step(" + thread + ", " + index + ")", Scene.STEPS, -1, x -> x.step(thread, asked));
            }
        }
        Check.sentence("Promise 10: answers -1 if index is outside 0..n_thread-1");
        int[] counts = {3, 2, 1};
        int[] wrong = {Integer.MIN_VALUE, -6, -1, 6, 7, Integer.MAX_VALUE};
        for (int thread = 0; thread < 3; thread++) {
            int asked = thread;
            for (int index : wrong) {
                Scene.refused("step(" + thread + ", " + index + ")", Scene.STEPS, -1, x -> x.step(asked, index));
            }
            int next = counts[thread];
            Scene.refused("step(" + thread + ", " + next + ")", Scene.STEPS, -1, x -> x.step(asked, next));
        }
        for (int thread = 0; thread < 3; thread++) {
            int asked = thread;
            Scene.refusedBy("step(" + thread + ", 0) of an empty thread", Scene::cellsOnly, -1, x -> x.step(asked, 0));
        }
        Check.sentence("Promise 10: it changes nothing");
        Scene.refused("step(1, 0)", Scene.NOTHING, 2 * Scene.SENT + 1, x -> x.step(1, 0));
        Scene.refused("step(1, 1)", Scene.NOTHING, 2 * Scene.WITH_VARIABLE, x -> x.step(1, 1));
        firstAndLastCell();
    }

    private static void firstAndLastCell() {
        Check.sentence("Promise 10: 2*t+1 if the step is SEND t, 2*t if it is RECEIVE t; never -1");
        IntruderSearch x = Scene.atoms(1);
        Scene.fill(x, 64);
        x.addStep(0, false, 0);
        x.addStep(0, true, 0);
        x.addStep(1, false, 63);
        x.addStep(1, true, 63);
        x.addStep(2, false, 31);
        x.addStep(2, true, 32);
        int[][] due = {{0, 1}, {126, 127}, {62, 65}};
        for (int thread = 0; thread < 3; thread++) {
            for (int index = 0; index < 2; index++) {
                Check.due("step(" + thread + ", " + index + ")", x.step(thread, index), due[thread][index]);
            }
        }
    }

    private static void theSecret() {
        Check.sentence("Promise 11: answers false and changes nothing if t is not a valid id");
        for (int t : OUTSIDE) {
            Scene.refused("setSecret(" + t + ")", Scene.NOTHING, 0, x -> Scene.number(x.setSecret(t)));
            Scene.refusedBy("setSecret(" + t + ") as the first", Scene.sceneWithoutSecret(0), 0,
                x -> Scene.number(x.setSecret(t)));
        }
        Scene.refused("setSecret(64) in a full table", Scene.CELLS, 0, x -> Scene.number(x.setSecret(64)));
        Check.sentence("Promise 11: the secret becomes t, replacing any earlier one, even an equal one; resets; true");
        Scene.resets("an equal secret", 1, x -> Scene.number(x.setSecret(x.secret())));
        Scene.resets("another secret", 1, x -> Scene.number(x.setSecret(Scene.LOCKED)));
        IntruderSearch other = Scene.make(Scene.NOTHING, 2);
        Check.due("setSecret(" + Scene.LOCKED + ")", other.setSecret(Scene.LOCKED), true);
        Check.due("secret()", other.secret(), Scene.LOCKED);
        Check.due("search() for the new secret", other.search(), 2);
        Check.due("its length", other.traceLength(), 0);
        Check.sentence("Promise 11: the term t may contain variables");
        Scene.resets("a variable", 1, x -> Scene.number(x.setSecret(Scene.VARIABLE)));
        Scene.resets("a term with a variable", 1, x -> Scene.number(x.setSecret(Scene.WITH_VARIABLE)));
        readingTheSecret();
        Check.sentence("Promise 11: the cells, K0 and the threads do not change");
        Scene.leaves("the first setSecret", Scene.cellsOnly(), "8 to learn, 6 steps, 5 atoms", 1,
            x -> Scene.number(x.setSecret(0)), Check::cells, Check::known, Check::steps);
        for (int status = 0; status <= 2; status++) {
            Scene.leaves("setSecret", Scene.make(Scene.NOTHING, status), "6 to learn, 2 steps, 5 atoms", 1,
                x -> Scene.number(x.setSecret(0)), Check::cells, Check::known, Check::steps);
        }
    }

    private static void readingTheSecret() {
        Check.sentence("Scenario: the secret is one term, possibly with variables, or none; initially there is none");
        IntruderSearch y = Scene.cellsOnly();
        Check.due("secret() before the first", y.secret(), -1);
        for (int t = 0; t < Scene.OWN_CELLS; t++) {
            Check.due("setSecret(" + t + ")", y.setSecret(t), true);
            Check.due("secret()", y.secret(), t);
        }
        Check.sentence("Promise 11: secret() answers the id of the secret, or -1 if none was set; it changes nothing");
        IntruderSearch x = Scene.withoutSecret(Scene.CELLS);
        Check.due("secret() where none was set", x.secret(), -1);
        for (int t = 0; t < 64; t++) {
            Check.due("setSecret(" + t + ")", x.setSecret(t), true);
            Check.due("secret()", x.secret(), t);
            x.setSecret(64);
            Check.due("secret() after a refused one", x.secret(), t);
        }
        Scene.refusedBy("secret() where none was set", Scene.sceneWithoutSecret(0), -1, IntruderSearch::secret);
        for (int status = 0; status <= 2; status++) {
            Scene.refusedBy("secret()", Scene.scene(0, status), status == 1 ? Scene.HIDDEN : Scene.WITH_VARIABLE,
                IntruderSearch::secret);
        }
    }
}
