/** Promises 12 to 15 with ordinary inputs: searching, the status and the trace. */
public final class SearchTest {
    private static final int PAIR = IntruderSearch.PAIR;
    private static final int SENC = IntruderSearch.SENC;
    private static final int AENC = IntruderSearch.AENC;
    private static final boolean SEND = true;
    private static final boolean RECEIVE = false;

    public static void main(String[] args) {
        exampleOfTheReadme();
        shorterComesFirst();
        lesserThreadComesFirst();
        lesserThreadComesFirstLater();
        lesserAtomComesFirst();
        leastVariableCountsMost();
        lengthBeforeAssignment();
        scheduleBeforeAssignment();
        equalSchedulesKeepTheLesserAssignment();
        receivingNeedsDerivation();
        ownLaterSendDoesNotHelp();
        otherThreadHelps();
        stepsGoInOrder();
        prefixIsEnough();
        threeThreads();
        variableMakesTermsEqual();
        variableMeetsVariable();
        variableNamesCompromised();
        variableBoundOnceForAllThreads();
        receivedIsNotLearned();
        searchAfterChange();
        composeAfterAttack();
        readingTheTrace();
        largestSearch();
        Check.end();
    }

    private static void exampleOfTheReadme() {
        IntruderSearch x = new IntruderSearch();
        int nonce = x.atom(false);
        int spy = x.atom(true);
        int peer = x.variable(0);
        int message = x.compose(AENC, nonce, peer);
        x.addStep(0, SEND, message);
        x.setSecret(nonce);
        Check.due("search()", x.search(), IntruderSearch.ATTACK);
        Check.due("traceLength()", x.traceLength(), 1);
        Check.due("traceThread(0)", x.traceThread(0), 0);
        Check.due("value(0)", x.value(0), spy);
        Check.due("derivable(nonce)", x.derivable(nonce), false);
    }

    private static void shorterComesFirst() {
        IntruderSearch x = Scene.atoms(3);
        x.addStep(0, SEND, 0);
        x.addStep(0, SEND, 2);
        x.addStep(2, SEND, 2);
        x.setSecret(2);
        Check.searched("shorter one in a greater thread", x, "1 2 | - - -");
    }

    private static void lesserThreadComesFirst() {
        for (int least = 0; least < 3; least++) {
            IntruderSearch x = Scene.atoms(1);
            for (int thread = 2; thread >= least; thread--) {
                x.addStep(thread, SEND, 0);
            }
            x.setSecret(0);
            Check.searched("least thread", x, "1 " + least + " | - - -");
        }
    }

    private static void lesserThreadComesFirstLater() {
        IntruderSearch x = Scene.atoms(4);
        int lock = x.compose(SENC, 3, x.compose(PAIR, 0, 1));
        x.learn(lock);
        x.addStep(2, SEND, 0);
        x.addStep(1, SEND, 1);
        x.addStep(0, SEND, 2);
        x.setSecret(3);
        Check.searched("two of three threads", x, "2 1 2 | - - -");
        x.addStep(1, SEND, 0);
        Check.searched("one thread twice", x, "2 1 1 | - - -");
        x.addStep(0, SEND, 1);
        x.setSecret(x.compose(PAIR, 3, 2));
        Check.searched("three threads", x, "3 0 0 2 | - - -");
    }

    private static void lesserAtomComesFirst() {
        IntruderSearch x = Scene.atoms(4);
        x.variable(0);
        x.learn(2);
        x.learn(3);
        x.learn(1);
        x.setSecret(4);
        Check.searched("least derivable atom", x, "0 | 1 - -");
    }

    private static void leastVariableCountsMost() {
        // The cell of variable 2 is older than that of variable 0.
        IntruderSearch x = Scene.atoms(3);
        int late = x.variable(2);
        int early = x.variable(0);
        x.learn(x.compose(SENC, x.compose(PAIR, 1, 0), 2));
        x.learn(x.compose(SENC, x.compose(PAIR, 0, 1), 2));
        x.setSecret(x.compose(SENC, x.compose(PAIR, late, early), 2));
        Check.searched("variables 0 and 2", x, "0 | 0 - 1");

        IntruderSearch y = Scene.atoms(3);
        int one = y.variable(1);
        int two = y.variable(2);
        y.learn(y.compose(SENC, y.compose(PAIR, 1, 0), 2));
        y.learn(y.compose(SENC, y.compose(PAIR, 0, 1), 2));
        y.setSecret(y.compose(SENC, y.compose(PAIR, two, one), 2));
        Check.searched("variables 1 and 2", y, "0 | - 0 1");
    }

    private static void lengthBeforeAssignment() {
        IntruderSearch x = Scene.atoms(3);
        int v = x.variable(0);
        x.addStep(0, SEND, x.compose(SENC, 0, 2));
        x.learn(x.compose(SENC, 1, 2));
        x.setSecret(x.compose(SENC, v, 2));
        Check.searched("greater atom with the shorter schedule", x, "0 | 1 - -");
    }

    private static void scheduleBeforeAssignment() {
        IntruderSearch x = Scene.atoms(3);
        int v = x.variable(1);
        x.addStep(1, SEND, x.compose(SENC, 0, 2));
        x.addStep(0, SEND, x.compose(SENC, 1, 2));
        x.setSecret(x.compose(SENC, v, 2));
        Check.searched("greater atom with the lesser thread", x, "1 0 | - 1 -");
    }

    private static void equalSchedulesKeepTheLesserAssignment() {
        IntruderSearch x = Scene.atoms(3);
        int v = x.variable(0);
        x.addStep(1, SEND, v);
        x.setSecret(v);
        Check.searched("any atom will do", x, "1 1 | 0 - -");
        x.setSecret(2);
        Check.searched("one atom will do", x, "1 1 | 2 - -");
    }

    private static void receivingNeedsDerivation() {
        IntruderSearch x = Scene.atoms(3);
        x.addStep(0, RECEIVE, x.compose(PAIR, 0, 1));
        x.addStep(0, SEND, 2);
        x.setSecret(2);
        Check.searched("nothing to receive", x, "SAFE");
        x.learn(0);
        Check.searched("half to receive", x, "SAFE");
        x.learn(1);
        Check.searched("all to receive", x, "2 0 0 | - - -");
    }

    private static void ownLaterSendDoesNotHelp() {
        IntruderSearch x = Scene.atoms(2);
        x.addStep(0, RECEIVE, 0);
        x.addStep(0, SEND, 0);
        x.addStep(0, SEND, 1);
        x.setSecret(1);
        Check.searched("what is sent after receiving", x, "SAFE");
    }

    private static void otherThreadHelps() {
        IntruderSearch x = Scene.atoms(2);
        x.addStep(0, RECEIVE, 0);
        x.addStep(0, SEND, 1);
        x.addStep(1, SEND, 0);
        x.setSecret(1);
        Check.searched("what another thread sends", x, "3 1 0 0 | - - -");
    }

    private static void stepsGoInOrder() {
        IntruderSearch x = Scene.atoms(3);
        x.addStep(2, SEND, 0);
        x.addStep(2, RECEIVE, 1);
        x.addStep(2, SEND, 2);
        x.setSecret(2);
        Check.searched("a step in between cannot be left out", x, "SAFE");
        x.addStep(0, SEND, 1);
        Check.searched("the step in between is served", x, "4 0 2 2 2 | - - -");
    }

    private static void prefixIsEnough() {
        IntruderSearch x = Scene.atoms(3);
        x.addStep(1, SEND, 0);
        x.addStep(1, RECEIVE, 2);
        x.addStep(0, RECEIVE, 2);
        x.setSecret(0);
        Check.searched("threads stop where they are", x, "1 1 | - - -");
    }

    private static void threeThreads() {
        IntruderSearch x = Scene.atoms(4);
        x.addStep(2, SEND, 0);
        x.addStep(1, RECEIVE, 0);
        x.addStep(1, SEND, 1);
        x.addStep(0, RECEIVE, 1);
        x.addStep(0, SEND, 2);
        x.addStep(2, RECEIVE, 2);
        x.setSecret(2);
        Check.searched("one thread serves the next", x, "5 2 1 1 0 0 | - - -");
    }

    private static void variableMakesTermsEqual() {
        IntruderSearch x = Scene.atoms(4);
        int v = x.variable(0);
        int pattern = x.compose(SENC, x.compose(PAIR, v, 3), 2);
        x.learn(x.compose(SENC, x.compose(PAIR, 1, 3), 2));
        x.addStep(0, RECEIVE, pattern);
        x.addStep(0, SEND, v);
        x.setSecret(1);
        Check.searched("term received as it is known", x, "2 0 0 | 1 - -");
        x.setSecret(0);
        Check.searched("no other atom fits", x, "SAFE");
    }

    private static void variableMeetsVariable() {
        IntruderSearch x = Scene.atoms(3);
        int v = x.variable(0);
        int w = x.variable(1);
        x.addStep(0, SEND, x.compose(SENC, x.compose(PAIR, v, 1), 2));
        x.addStep(1, RECEIVE, x.compose(SENC, x.compose(PAIR, 0, w), 2));
        x.addStep(1, SEND, 2);
        x.setSecret(2);
        Check.searched("two patterns with two variables", x, "3 0 1 1 | 0 1 -");
    }

    private static void variableNamesCompromised() {
        IntruderSearch x = Scene.atoms(2);
        int bad = x.atom(true);
        int v = x.variable(0);
        x.addStep(0, SEND, x.compose(AENC, 0, v));
        x.setSecret(0);
        Check.searched("compromised by assignment", x, "1 0 | " + bad + " - -");
        IntruderSearch y = Scene.atoms(3);
        int w = y.variable(0);
        y.addStep(0, SEND, y.compose(AENC, 0, w));
        y.setSecret(0);
        Check.searched("nobody is compromised", y, "SAFE");
    }

    private static void variableBoundOnceForAllThreads() {
        IntruderSearch x = Scene.atoms(5);
        int v = x.variable(0);
        x.learn(0);
        x.learn(x.compose(SENC, 1, 2));
        x.addStep(0, RECEIVE, v);
        x.addStep(0, SEND, 3);
        x.addStep(1, RECEIVE, x.compose(SENC, v, 2));
        x.addStep(1, SEND, 4);
        x.setSecret(3);
        Check.searched("bound to 0 in thread 0", x, "2 0 0 | 0 - -");
        x.setSecret(4);
        Check.searched("bound to 1 in thread 1", x, "2 1 1 | 1 - -");
        x.setSecret(x.compose(PAIR, 3, 4));
        Check.searched("not bound to 0 and 1 at once", x, "SAFE");
        x.learn(1);
        Check.searched("bound to 1 in both", x, "4 0 0 1 1 | 1 - -");
    }

    private static void receivedIsNotLearned() {
        IntruderSearch x = Scene.atoms(2);
        int v = x.variable(0);
        x.learn(0);
        x.addStep(0, RECEIVE, v);
        x.setSecret(1);
        Check.searched("receiving teaches nothing", x, "SAFE");
    }

    private static void searchAfterChange() {
        IntruderSearch x = Scene.atoms(2);
        x.addStep(2, SEND, 1);
        x.addStep(2, SEND, 0);
        x.setSecret(0);
        Check.searched("before the change", x, "2 2 2 | - - -");
        x.setSecret(1);
        Check.searched("a shorter trace after a longer one", x, "1 2 | - - -");
        x.setSecret(x.compose(PAIR, 0, 0));
        x.addStep(0, RECEIVE, 0);
        Check.searched("a longer trace after a shorter one", x, "2 2 2 | - - -");
        x.atom(false);
        x.setSecret(3);
        Check.due("secret is the new atom", x.cell(x.secret(), 0), IntruderSearch.ATOM);
        Check.searched("SAFE after an attack", x, "SAFE");
    }

    private static void composeAfterAttack() {
        IntruderSearch x = Scene.atoms(2);
        int v = x.variable(0);
        x.addStep(0, SEND, x.compose(SENC, v, 1));
        x.setSecret(x.compose(SENC, 0, 1));
        Check.searched("before composing", x, "1 0 | 0 - -");
        String before = Check.outcome(x);
        x.compose(SENC, x.compose(PAIR, v, v), x.compose(PAIR, 0, 0));
        Check.same("composing changed", Check.outcome(x), before);
        Check.searched("after composing", x, "1 0 | 0 - -");
    }

    private static void readingTheTrace() {
        IntruderSearch x = Scene.atoms(3);
        x.variable(0);
        x.variable(1);
        x.addStep(2, SEND, 0);
        x.addStep(1, SEND, 1);
        x.setSecret(x.compose(PAIR, 0, 1));
        Check.searched("two threads", x, "2 1 2 | 0 0 -");
        for (int edge : Check.edges()) {
            Check.due("traceThread(" + edge + ")", x.traceThread(edge), edge == 0 ? 1 : edge == 1 ? 2 : -1);
            Check.due("value(" + edge + ")", x.value(edge), edge == 0 || edge == 1 ? 0 : -1);
        }
        Check.due("status is still ATTACK", x.status(), IntruderSearch.ATTACK);
    }

    /** As many assignments, schedules and cells as there can be, and the last of all is the only attack. */
    private static void largestSearch() {
        IntruderSearch x = Scene.atoms(8);
        for (int v = 0; v < 3; v++) {
            x.variable(v);
        }
        int lock = x.compose(SENC, x.compose(PAIR, x.compose(PAIR, 8, 9), 10), 0);
        int only = x.compose(SENC, x.compose(PAIR, x.compose(PAIR, 7, 7), 7), 0);
        int goal = x.compose(AENC, 1, only);
        for (int thread = 0; thread < 3; thread++) {
            x.addStep(thread, SEND, x.compose(SENC, 1 + thread, 8 + thread));
            x.addStep(thread, SEND, x.compose(AENC, 1 + thread, lock));
            goal = thread == 0 ? goal : x.compose(PAIR, goal, x.compose(AENC, 1 + thread, only));
        }
        Check.due("goal fits", goal >= 0, true);
        for (int t = 0; x.cell(63, 0) == -1 && t < 11; t++) {
            for (int op = PAIR; op <= AENC; op++) {
                x.compose(op, t, 8);
                x.compose(op, t, 9);
            }
        }
        Check.due("table is full", x.cell(63, 0) != -1, true);
        x.setSecret(goal);
        Check.searched("the last assignment", x, "6 0 0 1 1 2 2 | 7 7 7");
        x.setSecret(0);
        Check.searched("all in vain", x, "SAFE");
    }
}
