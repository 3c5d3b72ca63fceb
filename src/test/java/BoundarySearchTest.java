/** The boundary cases of "Assignments", of "Attacks" and of promise 12, sentence by sentence. */
public final class BoundarySearchTest {
    private static final boolean SEND = true;
    private static final boolean RECEIVE = false;

    public static void main(String[] args) {
        noSecret();
        noSecretComesBeforeNoAtom();
        noVariable();
        variableAndNoAtom();
        everyDeclaredVariableGetsAValue();
        valuesAreAtomsOnly();
        everyAssignmentIsTried();
        variablesAreReplaced();
        equalTrees();
        emptySchedule();
        everySplitOfSixSteps();
        noThreadGoesBeyondItsEnd();
        emptyThreadsDoNotOccur();
        onlyEarlierPositionsCount();
        fullK0();
        positionsAreSteps();
        everyReceivedMessageIsDerived();
        lastPositionCountsForTheSecret();
        receivingTeachesNothing();
        shorterFirst();
        lesserThreadFirst();
        lesserAtomFirst();
        everyCellOfAFullTable();
        searchLeavesTheRest();
        safeDropsTheTrace();
        searchAgain();
        Check.end();
    }

    private static void noSecret() {
        Check.sentence("Promise 12: if no secret is set, search() answers NO_SECRET and changes nothing");
        int[] scenes = {Scene.NOTHING, Scene.ATOMS, Scene.CELLS, Scene.KNOWN, Scene.STEPS, Scene.ALL};
        for (int full : scenes) {
            Scene.refusedBy("search() of scene " + full, Scene.sceneWithoutSecret(full), 3, IntruderSearch::search);
        }
        IntruderSearch x = Scene.withoutSecret(Scene.NOTHING);
        x.setSecret(-1);
        x.setSecret(Scene.OWN_CELLS);
        Check.due("search() after refused secrets", x.search(), 3);
        x.setSecret(0);
        Check.due("search() after the first secret", x.search(), 1);
    }

    private static void noSecretComesBeforeNoAtom() {
        Check.sentence("Promise 12: no secret is set, and a variable is declared and there is no atom");
        Scene.refusedBy("search()", BoundarySearchTest::variableAlone, 3, IntruderSearch::search);
    }

    private static IntruderSearch variableAlone() {
        IntruderSearch x = new IntruderSearch();
        x.variable(0);
        x.addStep(0, SEND, 0);
        return x;
    }

    private static void noVariable() {
        Check.sentence("Assignments and promise 12: with no variable declared, there is the empty assignment only");
        for (int count = 2; count <= 8; count++) {
            IntruderSearch x = Scene.atoms(count);
            x.learn(count - 1);
            x.setSecret(count - 1);
            Check.searched("known", x, "0 | - - -");
            x.setSecret(0);
            Check.searched("not known", x, "SAFE");
            x.addStep(2, SEND, 0);
            Check.searched("sent", x, "1 2 | - - -");
        }
    }

    private static void variableAndNoAtom() {
        Check.sentence("Assignments and promise 12: with a variable declared and no atom, there is none, so SAFE");
        for (int declared = 1; declared < 8; declared++) {
            IntruderSearch x = new IntruderSearch();
            for (int v = 0; v < 3; v++) {
                if ((declared >> v & 1) != 0) {
                    x.variable(v);
                }
            }
            x.setSecret(0);
            Check.searched("nothing sent", x, "SAFE");
            x.addStep(0, SEND, 0);
            Check.searched("the secret is sent", x, "SAFE");
            x.setSecret(x.compose(3, 0, 0));
            Check.searched("what can be built is the secret", x, "SAFE");
            Check.same("outcome", Check.outcome(x), "status 1 " + Scene.NO_OUTCOME);
            int atom = x.atom(false);
            Check.due("search with one atom", x.search(), 2);
            for (int v = 0; v < 3; v++) {
                Check.due("value(" + v + ")", x.value(v), (declared >> v & 1) != 0 ? atom : -1);
            }
        }
    }

    private static void everyDeclaredVariableGetsAValue() {
        Check.sentence("Promise 12: every declared variable receives a value, whether or not it occurs anywhere");
        for (int declared = 1; declared < 8; declared++) {
            IntruderSearch x = new IntruderSearch();
            for (int v = 0; v < 3; v++) {
                if ((declared >> v & 1) != 0) {
                    x.variable(v);
                }
            }
            // The variables come first, so that an atom's number does not pass for its id.
            int first = x.atom(false);
            int second = x.atom(false);
            x.learn(second);
            x.setSecret(second);
            Check.due("search", x.search(), 2);
            for (int v = 0; v < 3; v++) {
                Check.due("value(" + v + ") of " + declared, x.value(v), (declared >> v & 1) != 0 ? first : -1);
            }
            Check.same("replay", Replay.broken(x), "");
        }
    }

    private static void valuesAreAtomsOnly() {
        Check.sentence("Assignments: an assignment maps every declared variable to an atom");
        IntruderSearch x = Scene.atoms(3);
        int v = x.variable(0);
        x.learn(x.compose(4, 0, 1));
        x.addStep(0, RECEIVE, v);
        x.addStep(0, SEND, 2);
        x.setSecret(2);
        Check.searched("only a composite could be received", x, "SAFE");
        x.learn(1);
        Check.searched("an atom can be received", x, "2 0 0 | 0 - -");
    }

    private static void everyAssignmentIsTried() {
        Check.sentence("Assignments: an assignment maps every declared variable to an atom, to any of them");
        for (int code = 0; code < 512; code++) {
            int[] atoms = {code / 64, code / 8 % 8, code % 8};
            IntruderSearch x = Scene.atoms(8);
            for (int v = 0; v < 3; v++) {
                x.variable(v);
            }
            // Atom 0 is not known, so that what is locked under it must be as it was learned.
            x.learn(x.compose(4, x.compose(3, atoms[0], x.compose(3, atoms[1], atoms[2])), 0));
            x.setSecret(x.compose(4, x.compose(3, 8, x.compose(3, 9, 10)), 0));
            Check.searched("pinned", x, "0 | " + atoms[0] + " " + atoms[1] + " " + atoms[2]);
        }
    }

    /** A variable at each leaf in turn of the largest terms that can still be locked, and variables at all leaves. */
    private static void variablesAreReplaced() {
        Check.sentence("Assignments: s(t) is the ground tree obtained by replacing each variable v with the atom s(v)");
        for (int op = 3; op <= 5; op++) {
            for (int leaf = 0; leaf < 15; leaf++) {
                for (int v = 0; v < 3; v++) {
                    IntruderSearch x = Scene.atoms(4);
                    int[] ground = new int[15];
                    int[] open = new int[15];
                    ground[leaf] = 2;
                    open[leaf] = x.variable(v);
                    String due = "0 |" + (v == 0 ? " 2" : " -") + (v == 1 ? " 2" : " -") + (v == 2 ? " 2" : " -");
                    replaced("leaf " + leaf + " of kind " + op, x, op, ground, open, due);
                }
            }
            IntruderSearch y = Scene.atoms(8);
            int[] ground = new int[15];
            int[] open = new int[15];
            for (int leaf = 0; leaf < 15; leaf++) {
                ground[leaf] = 7 - leaf % 3;
                open[leaf] = y.variable(leaf % 3);
            }
            replaced("all leaves of kind " + op, y, op, ground, open, "0 | 7 6 5");
        }
    }

    /** Locked under an atom that is never known, so that the secret must be just what was learned. */
    private static void replaced(String what, IntruderSearch x, int op, int[] ground, int[] open, String due) {
        int known = ground[14];
        int secret = open[14];
        for (int leaf = 13; leaf >= 0; leaf--) {
            known = leaf % 2 == 0 ? x.compose(op, ground[leaf], known) : x.compose(op, known, ground[leaf]);
            secret = leaf % 2 == 0 ? x.compose(op, open[leaf], secret) : x.compose(op, secret, open[leaf]);
        }
        Check.due(what + ": learn", x.learn(x.compose(4, known, 3)), true);
        Check.due(what + ": setSecret", x.setSecret(x.compose(4, secret, 3)), true);
        Check.due(what + ": size", x.cell(x.secret(), 3), 31);
        Check.searched(what, x, due);
    }

    private static void equalTrees() {
        Check.sentence("Assignments: two ground trees are equal iff they have the same shape, kinds and atoms");
        for (int op = 3; op <= 5; op++) {
            for (int other = 3; other <= 5; other++) {
                IntruderSearch x = Scene.atoms(4);
                int v = x.variable(0);
                // Locked under an atom that is never known, so that it must be received as it was sent.
                x.addStep(0, SEND, x.compose(4, x.compose(op, 1, 2), 3));
                x.setSecret(x.compose(4, x.compose(other, v, 2), 3));
                Check.searched("kinds " + op + " and " + other, x, op == other ? "1 0 | 1 - -" : "SAFE");
                x.setSecret(x.compose(4, x.compose(other, 2, v), 3));
                Check.searched("the other way round", x, "SAFE");
                x.setSecret(x.compose(4, x.compose(other, v, v), 3));
                Check.searched("two atoms for one variable", x, "SAFE");
                x.setSecret(x.compose(4, v, 3));
                Check.searched("another shape", x, "SAFE");
            }
        }
    }

    private static void emptySchedule() {
        Check.sentence("Promise 12: the schedule of length 0 is an attack exactly when s(secret) is in DY(K0)");
        IntruderSearch x = Scene.atoms(3);
        x.setSecret(0);
        Check.searched("K0 empty, no step", x, "SAFE");
        x.learn(0);
        Check.searched("the secret is known, no step", x, "0 | - - -");
        for (int thread = 0; thread < 3; thread++) {
            x.addStep(thread, SEND, 0);
        }
        Check.searched("the secret is known and sent", x, "0 | - - -");
        x.setSecret(x.compose(5, 0, x.compose(4, 0, 0)));
        Check.searched("the secret is built", x, "0 | - - -");
        x.setSecret(1);
        Check.searched("the secret is not known", x, "SAFE");
        int v = x.variable(2);
        x.setSecret(v);
        Check.searched("for some assignment", x, "0 | - - 0");
        x.learn(x.compose(4, 2, 1));
        x.setSecret(x.compose(4, v, 1));
        Check.searched("for one assignment only", x, "0 | - - 2");
        Check.due("traceLength()", x.traceLength(), 0);
        Check.due("traceThread(0)", x.traceThread(0), -1);
    }

    /** All six steps are needed, in whatever threads they are. */
    private static void everySplitOfSixSteps() {
        Check.sentence("Attacks: each thread j occurs at most n_j times, with n_0 + n_1 + n_2 = MAX_STEPS");
        for (int first = 0; first <= 6; first++) {
            for (int second = 0; first + second <= 6; second++) {
                int[] counts = {first, second, 6 - first - second};
                IntruderSearch x = Scene.atoms(8);
                StringBuilder due = new StringBuilder("6");
                int key = 0;
                int made = 0;
                for (int thread = 0; thread < 3; thread++) {
                    for (int i = 0; i < counts[thread]; i++) {
                        x.addStep(thread, SEND, made);
                        key = made == 0 ? 0 : x.compose(3, key, made);
                        due.append(' ').append(thread);
                        made++;
                    }
                }
                x.learn(x.compose(4, 6, key));
                x.setSecret(6);
                Check.searched("six steps", x, due + " | - - -");
                x.setSecret(7);
                Check.searched("six steps in vain", x, "SAFE");
            }
        }
    }

    private static void noThreadGoesBeyondItsEnd() {
        Check.sentence("Attacks: each thread j occurs at most n_j times");
        for (int thread = 0; thread < 3; thread++) {
            for (int count = 1; count <= 5; count++) {
                IntruderSearch x = Scene.atoms(7);
                for (int i = 0; i < count; i++) {
                    x.addStep(thread, SEND, i);
                }
                x.addStep((thread + 1) % 3, RECEIVE, 6);
                x.setSecret(count);
                Check.searched("one step more would do", x, "SAFE");
                x.setSecret(count - 1);
                Check.due("the last step does", x.search(), 2);
                Check.due("length", x.traceLength(), count);
            }
        }
    }

    private static void emptyThreadsDoNotOccur() {
        Check.sentence("Attacks: each thread j occurs at most n_j times, n_j = 0");
        for (int thread = 0; thread < 3; thread++) {
            IntruderSearch x = Scene.atoms(2);
            x.setSecret(1);
            Check.searched("all threads empty", x, "SAFE");
            x.addStep(thread, SEND, 1);
            Check.searched("only thread " + thread, x, "1 " + thread + " | - - -");
        }
    }

    private static void onlyEarlierPositionsCount() {
        Check.sentence("Attacks: K_i is K0 together with s(t) for every position j < i whose step is SEND t");
        for (int thread = 0; thread < 3; thread++) {
            IntruderSearch x = Scene.atoms(2);
            x.addStep(thread, RECEIVE, 0);
            x.addStep(thread, SEND, 0);
            x.setSecret(0);
            Check.searched("received before it is sent", x, "SAFE");
            IntruderSearch y = Scene.atoms(2);
            y.addStep(thread, SEND, 0);
            y.addStep(thread, RECEIVE, 0);
            y.addStep(thread, SEND, 1);
            y.setSecret(1);
            Check.searched("received after it is sent", y, "3 " + thread + " " + thread + " " + thread + " | - - -");
        }
        IntruderSearch z = Scene.atoms(4);
        z.addStep(0, RECEIVE, 1);
        z.addStep(0, SEND, 0);
        z.addStep(1, RECEIVE, 0);
        z.addStep(1, SEND, 1);
        z.setSecret(0);
        Check.searched("each waits for the other", z, "SAFE");
        z.addStep(2, SEND, 1);
        Check.searched("a third one serves the first", z, "3 2 0 0 | - - -");
    }

    private static void fullK0() {
        Check.sentence("Attacks: K_i is K0 together with what was sent, with K0 holding MAX_KNOWN terms");
        for (int missing = 0; missing <= 8; missing++) {
            IntruderSearch x = Scene.atoms(8);
            int all = 0;
            for (int i = 0; i < 8; i++) {
                all = i == 0 ? 0 : x.compose(3, all, i);
                x.learn(i == missing ? (i + 1) % 8 : i);
            }
            x.setSecret(all);
            Check.searched("without " + missing, x, missing == 8 ? "0 | - - -" : "SAFE");
            x.addStep(2, SEND, missing % 8);
            Check.searched("with " + missing + " sent", x, missing == 8 ? "0 | - - -" : "1 2 | - - -");
        }
    }

    private static void positionsAreSteps() {
        Check.sentence("Attacks: position i stands for step number c of thread q_i, where c counts q_i among q_1..q_i");
        for (int first = 0; first < 3; first++) {
            for (int second = 0; second < 3; second++) {
                if (first != second) {
                    IntruderSearch x = Scene.atoms(3);
                    x.addStep(first, SEND, 0);
                    x.addStep(first, RECEIVE, 1);
                    x.addStep(first, SEND, 2);
                    x.addStep(second, RECEIVE, 0);
                    x.addStep(second, SEND, 1);
                    x.setSecret(2);
                    Check.searched("there and back", x, "5 " + first + " " + second + " " + second + " "
                        + first + " " + first + " | - - -");
                }
            }
        }
    }

    private static void everyReceivedMessageIsDerived() {
        Check.sentence("Attacks: s(t) is in DY(K_i) for every position i whose step is RECEIVE t");
        for (int thread = 0; thread < 3; thread++) {
            String all = "6 " + (thread + " ").repeat(6) + "| - - -";
            for (int wrong = 0; wrong < 5; wrong++) {
                IntruderSearch x = Scene.atoms(3);
                x.learn(0);
                for (int index = 0; index < 5; index++) {
                    x.addStep(thread, RECEIVE, index == wrong ? 1 : 0);
                }
                x.addStep(thread, SEND, 2);
                x.setSecret(2);
                Check.searched("step " + wrong + " of thread " + thread + " cannot be served", x, "SAFE");
                x.learn(1);
                Check.searched("step " + wrong + " of thread " + thread + " can be served", x, all);
            }
        }
    }

    private static void lastPositionCountsForTheSecret() {
        Check.sentence("Attacks: s(secret) is in DY(K_(L+1)), which counts the SEND at position L");
        IntruderSearch x = Scene.atoms(3);
        x.addStep(1, SEND, 0);
        x.addStep(1, SEND, 1);
        x.setSecret(x.compose(3, 0, 1));
        Check.searched("the last step is needed", x, "2 1 1 | - - -");
    }

    private static void receivingTeachesNothing() {
        Check.sentence("Attacks: K_i has nothing from a RECEIVE");
        IntruderSearch x = Scene.atoms(2);
        int v = x.variable(0);
        x.learn(0);
        x.addStep(0, RECEIVE, v);
        x.addStep(0, RECEIVE, x.compose(3, v, v));
        x.setSecret(1);
        Check.searched("only received", x, "SAFE");
    }

    private static void shorterFirst() {
        Check.sentence("Attacks, 1: smaller L comes first");
        IntruderSearch x = Scene.atoms(4);
        int v = x.variable(0);
        x.addStep(0, SEND, 0);
        x.addStep(0, SEND, x.compose(4, 0, 3));
        x.addStep(2, SEND, x.compose(4, 2, 3));
        x.setSecret(x.compose(4, v, 3));
        Check.searched("before the lesser thread and the lesser atom", x, "1 2 | 2 - -");
    }

    private static void lesserThreadFirst() {
        Check.sentence("Attacks, 2: the smaller thread number at the first position where the schedules differ");
        IntruderSearch x = Scene.atoms(4);
        x.learn(x.compose(4, 3, x.compose(3, 0, 1)));
        x.addStep(0, SEND, 0);
        x.addStep(2, SEND, 1);
        x.addStep(1, SEND, 1);
        x.addStep(1, SEND, 0);
        x.setSecret(3);
        Check.searched("0 1 before 0 2, 1 0, 1 1 and 2 0", x, "2 0 1 | - - -");
        Check.sentence("Attacks, 2 before 3: at equal L the schedule counts before the assignment");
        IntruderSearch y = Scene.atoms(4);
        int v = y.variable(0);
        y.addStep(1, SEND, y.compose(4, 0, 3));
        y.addStep(0, SEND, y.compose(4, 2, 3));
        y.setSecret(y.compose(4, v, 3));
        Check.searched("the greater atom with the lesser thread", y, "1 0 | 2 - -");
    }

    private static void lesserAtomFirst() {
        Check.sentence("Attacks, 3: the smaller atom number to the least-numbered declared variable where they differ");
        int[][] declared = {{0, 1}, {0, 2}, {1, 2}};
        for (int[] pair : declared) {
            for (int order = 0; order < 2; order++) {
                IntruderSearch x = Scene.atoms(4);
                x.variable(pair[order]);
                x.variable(pair[1 - order]);
                int less = x.variable(pair[0]);
                int more = x.variable(pair[1]);
                x.learn(x.compose(4, x.compose(3, 2, 0), 3));
                x.learn(x.compose(4, x.compose(3, 1, 2), 3));
                x.learn(x.compose(4, x.compose(3, 1, 1), 3));
                x.setSecret(x.compose(4, x.compose(3, less, more), 3));
                Check.due("search", x.search(), 2);
                Check.due("value(" + pair[0] + ")", x.value(pair[0]), 1);
                Check.due("value(" + pair[1] + ")", x.value(pair[1]), 1);
            }
        }
        IntruderSearch y = new IntruderSearch();
        int v = y.variable(0);
        y.atom(false);
        y.atom(false);
        y.learn(2);
        y.setSecret(v);
        Check.searched("the least number is that of atom 0", y, "0 | 2 - -");
    }

    private static void everyCellOfAFullTable() {
        Check.sentence("Promise 12: if an attack exists, with each cell of a full table sent, received and secret");
        for (int t = 0; t < 64; t++) {
            IntruderSearch x = Scene.atoms(4);
            x.variable(0);
            Scene.fill(x, 64);
            x.addStep(1, SEND, t);
            x.addStep(1, RECEIVE, t);
            x.addStep(1, SEND, 3);
            x.setSecret(t);
            Check.due("secret " + t, x.search(), 2);
            Check.due("length of " + t, x.traceLength(), 1);
            Check.same("replay", Replay.broken(x), "");
            x.setSecret(3);
            Check.due("past receiving " + t, x.search(), 2);
            Check.same("replay", Replay.broken(x), "");
        }
    }

    private static void searchLeavesTheRest() {
        Check.sentence("Promise 12: the cells, K0, the threads and the secret do not change");
        for (int secret = 0; secret < Scene.OWN_CELLS; secret++) {
            IntruderSearch y = Scene.cellsOnly();
            y.setSecret(secret);
            Scene.leaves("search with nothing known", y, "8 to learn, 6 steps, 5 atoms", 1, IntruderSearch::search,
                Check::cells, Check::known, Check::steps, x -> "" + x.secret());
            IntruderSearch z = Scene.withoutSecret(Scene.NOTHING);
            z.setSecret(secret);
            Scene.leaves("search", z, "6 to learn, 2 steps, 5 atoms", secret == Scene.HIDDEN ? 1 : 2,
                IntruderSearch::search, Check::cells, Check::known, Check::steps, x -> "" + x.secret());
        }
    }

    private static void safeDropsTheTrace() {
        Check.sentence("Promise 12: if no attack exists, the status becomes SAFE, there is no trace");
        IntruderSearch x = Scene.make(Scene.NOTHING, 2);
        x.setSecret(Scene.HIDDEN);
        Check.due("search()", x.search(), 1);
        Check.same("outcome", Check.outcome(x), "status 1 " + Scene.NO_OUTCOME);
        Check.sentence("Promise 12: if an attack exists, the status becomes ATTACK and the least attack the trace");
        x.setSecret(Scene.WITH_VARIABLE);
        Check.searched("after SAFE", x, "1 1 | - 1 -");
        x.learn(Scene.SENT);
        Check.searched("a shorter one after a longer one", x, "0 | - 1 -");
    }

    private static void searchAgain() {
        Check.sentence("Promise 12: calling search() again without a reset in between gives the same status and trace");
        for (int status = 1; status <= 2; status++) {
            Scene.refusedBy("search() again", Scene.scene(Scene.ALL, status), status, IntruderSearch::search);
            IntruderSearch x = Scene.make(Scene.NOTHING, status);
            String before = Check.outcome(x);
            x.compose(5, Scene.VARIABLE, Scene.SPY);
            x.compose(3, Scene.HIDDEN, Scene.SPY);
            x.variable(1);
            x.learn(-1);
            x.derivable(Scene.LOCKED);
            Check.due("search() after calls that do not reset", x.search(), status);
            Check.same("outcome", Check.outcome(x), before);
        }
    }
}
