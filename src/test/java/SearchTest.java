/** Promises 12 to 15: searching, the status and the trace. */
public final class SearchTest {
    private static final int PAIR = IntruderSearch.PAIR;
    private static final int SENC = IntruderSearch.SENC;
    private static final int AENC = IntruderSearch.AENC;
    private static final boolean SEND = true;
    private static final boolean RECEIVE = false;

    public static void main(String[] args) {
        withoutSecret();
        emptySchedule();
        variableWithoutAtom();
        unusedVariable();
        onlyDeclaredVariablesCount();
        shorterComesFirst();
        lesserThreadComesFirst();
        lesserThreadComesFirstLater();
        lesserAtomComesFirst();
        leastVariableCountsMost();
        lengthBeforeAssignment();
        scheduleBeforeAssignment();
        equalSchedulesKeepTheLesserAssignment();
        receivingNeedsDerivation();
        ownLaterSendDoesNotHelp();
        otherThreadHelps();
        stepsGoInOrder();
        prefixIsEnough();
        allSixSteps();
        threeThreads();
        variableMakesTermsEqual();
        variableMeetsVariable();
        variableNamesCompromised();
        variableBoundOnceForAllThreads();
        receivedIsNotLearned();
        searchAgain();
        searchAfterChange();
        composeAfterAttack();
        readingTheTrace();
        safeHasNoTrace();
        largestSearch();
        Check.end();
    }

    private static void withoutSecret() {
        IntruderSearch x = atoms(2);
        x.learn(0);
        x.addStep(0, SEND, 1);
        String before = Check.seen(x);
        Check.due("search without secret", x.search(), IntruderSearch.NO_SECRET);
        Check.same("search without secret changed", Check.seen(x), before);
        Check.due("status without secret", x.status(), IntruderSearch.NOT_SEARCHED);
    }

    private static void emptySchedule() {
        IntruderSearch x = atoms(3);
        x.learn(0);
        x.learn(1);
        x.addStep(0, SEND, 2);
        x.setSecret(x.compose(SENC, 0, x.compose(PAIR, 1, 0)));
        due("secret built from K0", x, "0 | - - -");
        x.setSecret(2);
        due("secret not in K0", x, "1 0 | - - -");
        IntruderSearch y = atoms(1);
        y.setSecret(0);
        due("nothing known", y, "SAFE");
    }

    private static void variableWithoutAtom() {
        IntruderSearch x = new IntruderSearch();
        x.variable(1);
        x.setSecret(0);
        due("variable and no atom", x, "SAFE");
        x.addStep(0, SEND, 0);
        due("variable sent and no atom", x, "SAFE");
        x.atom(false);
        due("variable sent and an atom", x, "1 0 | - 1 -");
    }

    private static void unusedVariable() {
        IntruderSearch x = new IntruderSearch();
        x.variable(2);
        x.atom(false);
        x.variable(0);
        x.atom(false);
        x.learn(3);
        x.setSecret(3);
        due("variables that occur nowhere", x, "0 | 1 - 1");
    }

    private static void onlyDeclaredVariablesCount() {
        IntruderSearch x = atoms(2);
        x.variable(1);
        x.learn(1);
        x.setSecret(2);
        due("one variable of three", x, "0 | - 1 -");
        for (int v : Check.edges()) {
            Check.due("value(" + v + ")", x.value(v), v == 1 ? 1 : -1);
        }
    }

    private static void shorterComesFirst() {
        IntruderSearch x = atoms(3);
        x.addStep(0, SEND, 0);
        x.addStep(0, SEND, 2);
        x.addStep(2, SEND, 2);
        x.setSecret(2);
        due("shorter one in a greater thread", x, "1 2 | - - -");
    }

    private static void lesserThreadComesFirst() {
        for (int least = 0; least < 3; least++) {
            IntruderSearch x = atoms(1);
            for (int thread = 2; thread >= least; thread--) {
                x.addStep(thread, SEND, 0);
            }
            x.setSecret(0);
            due("least thread", x, "1 " + least + " | - - -");
        }
    }

    private static void lesserThreadComesFirstLater() {
        IntruderSearch x = atoms(4);
        int lock = x.compose(SENC, 3, x.compose(PAIR, 0, 1));
        x.learn(lock);
        x.addStep(2, SEND, 0);
        x.addStep(1, SEND, 1);
        x.addStep(0, SEND, 2);
        x.setSecret(3);
        due("two of three threads", x, "2 1 2 | - - -");
        x.addStep(1, SEND, 0);
        due("one thread twice", x, "2 1 1 | - - -");
        x.addStep(0, SEND, 1);
        x.setSecret(x.compose(PAIR, 3, 2));
        due("three threads", x, "3 0 0 2 | - - -");
    }

    private static void lesserAtomComesFirst() {
        IntruderSearch x = atoms(4);
        x.variable(0);
        x.learn(2);
        x.learn(3);
        x.learn(1);
        x.setSecret(4);
        due("least derivable atom", x, "0 | 1 - -");
    }

    private static void leastVariableCountsMost() {
        // The cell of variable 2 is older than that of variable 0.
        IntruderSearch x = atoms(3);
        int late = x.variable(2);
        int early = x.variable(0);
        x.learn(x.compose(SENC, x.compose(PAIR, 1, 0), 2));
        x.learn(x.compose(SENC, x.compose(PAIR, 0, 1), 2));
        x.setSecret(x.compose(SENC, x.compose(PAIR, late, early), 2));
        due("variables 0 and 2", x, "0 | 0 - 1");

        IntruderSearch y = atoms(3);
        int one = y.variable(1);
        int two = y.variable(2);
        y.learn(y.compose(SENC, y.compose(PAIR, 1, 0), 2));
        y.learn(y.compose(SENC, y.compose(PAIR, 0, 1), 2));
        y.setSecret(y.compose(SENC, y.compose(PAIR, two, one), 2));
        due("variables 1 and 2", y, "0 | - 0 1");
    }

    private static void lengthBeforeAssignment() {
        IntruderSearch x = atoms(3);
        int v = x.variable(0);
        x.addStep(0, SEND, x.compose(SENC, 0, 2));
        x.learn(x.compose(SENC, 1, 2));
        x.setSecret(x.compose(SENC, v, 2));
        due("greater atom with the shorter schedule", x, "0 | 1 - -");
    }

    private static void scheduleBeforeAssignment() {
        IntruderSearch x = atoms(3);
        int v = x.variable(1);
        x.addStep(1, SEND, x.compose(SENC, 0, 2));
        x.addStep(0, SEND, x.compose(SENC, 1, 2));
        x.setSecret(x.compose(SENC, v, 2));
        due("greater atom with the lesser thread", x, "1 0 | - 1 -");
    }

    private static void equalSchedulesKeepTheLesserAssignment() {
        IntruderSearch x = atoms(3);
        int v = x.variable(0);
        x.addStep(1, SEND, v);
        x.setSecret(v);
        due("any atom will do", x, "1 1 | 0 - -");
        x.setSecret(2);
        due("one atom will do", x, "1 1 | 2 - -");
    }

    private static void receivingNeedsDerivation() {
        IntruderSearch x = atoms(3);
        x.addStep(0, RECEIVE, x.compose(PAIR, 0, 1));
        x.addStep(0, SEND, 2);
        x.setSecret(2);
        due("nothing to receive", x, "SAFE");
        x.learn(0);
        due("half to receive", x, "SAFE");
        x.learn(1);
        due("all to receive", x, "2 0 0 | - - -");
    }

    private static void ownLaterSendDoesNotHelp() {
        IntruderSearch x = atoms(2);
        x.addStep(0, RECEIVE, 0);
        x.addStep(0, SEND, 0);
        x.addStep(0, SEND, 1);
        x.setSecret(1);
        due("what is sent after receiving", x, "SAFE");
    }

    private static void otherThreadHelps() {
        IntruderSearch x = atoms(2);
        x.addStep(0, RECEIVE, 0);
        x.addStep(0, SEND, 1);
        x.addStep(1, SEND, 0);
        x.setSecret(1);
        due("what another thread sends", x, "3 1 0 0 | - - -");
    }

    private static void stepsGoInOrder() {
        IntruderSearch x = atoms(3);
        x.addStep(2, SEND, 0);
        x.addStep(2, RECEIVE, 1);
        x.addStep(2, SEND, 2);
        x.setSecret(2);
        due("a step in between cannot be left out", x, "SAFE");
        x.addStep(0, SEND, 1);
        due("the step in between is served", x, "4 0 2 2 2 | - - -");
    }

    private static void prefixIsEnough() {
        IntruderSearch x = atoms(3);
        x.addStep(1, SEND, 0);
        x.addStep(1, RECEIVE, 2);
        x.addStep(0, RECEIVE, 2);
        x.setSecret(0);
        due("threads stop where they are", x, "1 1 | - - -");
    }

    private static void allSixSteps() {
        IntruderSearch x = atoms(7);
        for (int i = 0; i < 6; i++) {
            x.addStep(1, SEND, i);
        }
        int key = 0;
        for (int i = 1; i < 6; i++) {
            key = x.compose(PAIR, key, i);
        }
        x.learn(x.compose(SENC, 6, key));
        x.setSecret(6);
        due("six steps", x, "6 1 1 1 1 1 1 | - - -");
        Check.due("no seventh thread", x.traceThread(6), -1);
    }

    private static void threeThreads() {
        IntruderSearch x = atoms(4);
        x.addStep(2, SEND, 0);
        x.addStep(1, RECEIVE, 0);
        x.addStep(1, SEND, 1);
        x.addStep(0, RECEIVE, 1);
        x.addStep(0, SEND, 2);
        x.addStep(2, RECEIVE, 2);
        x.setSecret(2);
        due("one thread serves the next", x, "5 2 1 1 0 0 | - - -");
    }

    private static void variableMakesTermsEqual() {
        IntruderSearch x = atoms(4);
        int v = x.variable(0);
        int pattern = x.compose(SENC, x.compose(PAIR, v, 3), 2);
        x.learn(x.compose(SENC, x.compose(PAIR, 1, 3), 2));
        x.addStep(0, RECEIVE, pattern);
        x.addStep(0, SEND, v);
        x.setSecret(1);
        due("term received as it is known", x, "2 0 0 | 1 - -");
        x.setSecret(0);
        due("no other atom fits", x, "SAFE");
    }

    private static void variableMeetsVariable() {
        IntruderSearch x = atoms(3);
        int v = x.variable(0);
        int w = x.variable(1);
        x.addStep(0, SEND, x.compose(SENC, x.compose(PAIR, v, 1), 2));
        x.addStep(1, RECEIVE, x.compose(SENC, x.compose(PAIR, 0, w), 2));
        x.addStep(1, SEND, 2);
        x.setSecret(2);
        due("two patterns with two variables", x, "3 0 1 1 | 0 1 -");
    }

    private static void variableNamesCompromised() {
        IntruderSearch x = atoms(2);
        int bad = x.atom(true);
        int v = x.variable(0);
        x.addStep(0, SEND, x.compose(AENC, 0, v));
        x.setSecret(0);
        due("compromised by assignment", x, "1 0 | " + bad + " - -");
        IntruderSearch y = atoms(3);
        int w = y.variable(0);
        y.addStep(0, SEND, y.compose(AENC, 0, w));
        y.setSecret(0);
        due("nobody is compromised", y, "SAFE");
    }

    private static void variableBoundOnceForAllThreads() {
        IntruderSearch x = atoms(5);
        int v = x.variable(0);
        x.learn(0);
        x.learn(x.compose(SENC, 1, 2));
        x.addStep(0, RECEIVE, v);
        x.addStep(0, SEND, 3);
        x.addStep(1, RECEIVE, x.compose(SENC, v, 2));
        x.addStep(1, SEND, 4);
        x.setSecret(3);
        due("bound to 0 in thread 0", x, "2 0 0 | 0 - -");
        x.setSecret(4);
        due("bound to 1 in thread 1", x, "2 1 1 | 1 - -");
        x.setSecret(x.compose(PAIR, 3, 4));
        due("not bound to 0 and 1 at once", x, "SAFE");
        x.learn(1);
        due("bound to 1 in both", x, "4 0 0 1 1 | 1 - -");
    }

    private static void receivedIsNotLearned() {
        IntruderSearch x = atoms(2);
        int v = x.variable(0);
        x.learn(0);
        x.addStep(0, RECEIVE, v);
        x.setSecret(1);
        due("receiving teaches nothing", x, "SAFE");
    }

    private static void searchAgain() {
        IntruderSearch x = atoms(2);
        int v = x.variable(0);
        x.addStep(1, SEND, v);
        x.setSecret(1);
        due("first search", x, "1 1 | 1 - -");
        String before = Check.seen(x);
        due("second search", x, "1 1 | 1 - -");
        Check.same("second search changed", Check.seen(x), before);
    }

    private static void searchAfterChange() {
        IntruderSearch x = atoms(2);
        x.addStep(2, SEND, 1);
        x.addStep(2, SEND, 0);
        x.setSecret(0);
        due("before the change", x, "2 2 2 | - - -");
        x.setSecret(1);
        due("a shorter trace after a longer one", x, "1 2 | - - -");
        x.setSecret(x.compose(PAIR, 0, 0));
        x.addStep(0, RECEIVE, 0);
        due("a longer trace after a shorter one", x, "2 2 2 | - - -");
        x.atom(false);
        x.setSecret(3);
        Check.due("secret is the new atom", x.cell(x.secret(), 0), IntruderSearch.ATOM);
        due("SAFE after an attack", x, "SAFE");
    }

    private static void composeAfterAttack() {
        IntruderSearch x = atoms(2);
        int v = x.variable(0);
        x.addStep(0, SEND, x.compose(SENC, v, 1));
        x.setSecret(x.compose(SENC, 0, 1));
        due("before composing", x, "1 0 | 0 - -");
        String before = Check.outcome(x);
        x.compose(SENC, x.compose(PAIR, v, v), x.compose(PAIR, 0, 0));
        Check.same("composing changed", Check.outcome(x), before);
        due("after composing", x, "1 0 | 0 - -");
    }

    private static void readingTheTrace() {
        IntruderSearch x = atoms(3);
        x.variable(0);
        x.variable(1);
        x.addStep(2, SEND, 0);
        x.addStep(1, SEND, 1);
        x.setSecret(x.compose(PAIR, 0, 1));
        due("two threads", x, "2 1 2 | 0 0 -");
        for (int edge : Check.edges()) {
            Check.due("traceThread(" + edge + ")", x.traceThread(edge), edge == 0 ? 1 : edge == 1 ? 2 : -1);
            Check.due("value(" + edge + ")", x.value(edge), edge == 0 || edge == 1 ? 0 : -1);
        }
        Check.due("status is still ATTACK", x.status(), IntruderSearch.ATTACK);
    }

    private static void safeHasNoTrace() {
        IntruderSearch x = atoms(2);
        x.variable(0);
        x.addStep(0, SEND, 0);
        x.setSecret(0);
        x.search();
        x.setSecret(1);
        Check.due("search", x.search(), IntruderSearch.SAFE);
        Check.same("SAFE", Check.outcome(x),
            "status 1 length -1 threads -1 -1 -1 -1 -1 -1 -1 -1 values -1 -1 -1 -1 -1");
    }

    /** As many assignments, schedules and cells as there can be, and the last of all is the only attack. */
    private static void largestSearch() {
        IntruderSearch x = atoms(8);
        for (int v = 0; v < 3; v++) {
            x.variable(v);
        }
        int lock = x.compose(SENC, x.compose(PAIR, x.compose(PAIR, 8, 9), 10), 0);
        int only = x.compose(SENC, x.compose(PAIR, x.compose(PAIR, 7, 7), 7), 0);
        int goal = x.compose(AENC, 1, only);
        for (int thread = 0; thread < 3; thread++) {
            x.addStep(thread, SEND, x.compose(SENC, 1 + thread, 8 + thread));
            x.addStep(thread, SEND, x.compose(AENC, 1 + thread, lock));
            goal = thread == 0 ? goal : x.compose(PAIR, goal, x.compose(AENC, 1 + thread, only));
        }
        Check.due("goal fits", goal >= 0, true);
        for (int t = 0; x.cell(63, 0) == -1 && t < 11; t++) {
            for (int op = PAIR; op <= AENC; op++) {
                x.compose(op, t, 8);
                x.compose(op, t, 9);
            }
        }
        Check.due("table is full", x.cell(63, 0) != -1, true);
        x.setSecret(goal);
        due("the last assignment", x, "6 0 0 1 1 2 2 | 7 7 7");
        x.setSecret(0);
        due("all in vain", x, "SAFE");
    }

    private static IntruderSearch atoms(int count) {
        IntruderSearch x = new IntruderSearch();
        for (int i = 0; i < count; i++) {
            x.atom(false);
        }
        return x;
    }

    /** Searches and compares the length, the threads and the three values, '-' standing for -1. */
    private static void due(String what, IntruderSearch x, String want) {
        int answer = x.search();
        Check.due(what + ": status beside search", x.status(), answer);
        if (answer != IntruderSearch.ATTACK) {
            Check.due(what + ": length beside SAFE", x.traceLength(), -1);
            Check.same(what, answer == IntruderSearch.SAFE ? "SAFE" : "answer " + answer, want);
            return;
        }
        StringBuilder got = new StringBuilder();
        got.append(x.traceLength());
        for (int i = 0; i < x.traceLength(); i++) {
            got.append(' ').append(x.traceThread(i));
        }
        got.append(" |");
        for (int v = 0; v < 3; v++) {
            got.append(' ').append(x.value(v) == -1 ? "-" : "" + x.value(v));
        }
        Check.same(what, got.toString(), want);
    }
}
