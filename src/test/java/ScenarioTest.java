/** Promises 6, 7, 9, 10 and 11: K0, the threads' steps and the secret. */
public final class ScenarioTest {
    public static void main(String[] args) {
        learning();
        learningRefusals();
        learningStopsAtEight();
        readingKnown();
        addingSteps();
        addingStepsRefusals();
        stepsStopAtSix();
        readingSteps();
        secrets();
        resets();
        refusedCallsKeepTheTrace();
        Check.end();
    }

    /** Cells 0 and 1 are atoms, 2 is a variable, 3 is ground, 4 and 5 hold the variable. */
    private static IntruderSearch sixCells() {
        IntruderSearch x = new IntruderSearch();
        x.atom(false);
        x.atom(true);
        x.variable(0);
        x.compose(IntruderSearch.PAIR, 0, 1);
        x.compose(IntruderSearch.SENC, 2, 1);
        x.compose(IntruderSearch.PAIR, 3, 4);
        return x;
    }

    private static void learning() {
        IntruderSearch x = sixCells();
        Check.due("learn(3)", x.learn(3), true);
        Check.due("learn(0)", x.learn(0), true);
        Check.due("learn(3) again", x.learn(3), true);
        int[] due = {3, 0, 3, -1};
        for (int i = 0; i < due.length; i++) {
            Check.due("known(" + i + ")", x.known(i), due[i]);
        }
        Check.due("no step from learn", x.step(0, 0), -1);
        Check.due("no secret from learn", x.secret(), -1);
        Check.due("no cell from learn", x.cell(6, 0), -1);
    }

    private static void learningRefusals() {
        IntruderSearch x = sixCells();
        String before = Check.seen(x);
        Check.due("learn a variable", x.learn(2), false);
        Check.due("learn a term with a variable", x.learn(4), false);
        Check.due("learn a term with a variable deep", x.learn(5), false);
        for (int t : Check.edges()) {
            if (t < 0 || t > 5) {
                Check.due("learn(" + t + ")", x.learn(t), false);
            }
        }
        Check.same("refused learn changed", Check.seen(x), before);
        int secondOnly = x.compose(IntruderSearch.AENC, 0, 2);
        Check.due("learn with a variable as the key", x.learn(secondOnly), false);
    }

    private static void learningStopsAtEight() {
        IntruderSearch x = sixCells();
        for (int i = 0; i < IntruderSearch.MAX_KNOWN; i++) {
            Check.due("learn " + i, x.learn(i % 2), true);
        }
        x.setSecret(0);
        x.search();
        String before = Check.seen(x);
        Check.due("ninth learn", x.learn(3), false);
        Check.due("ninth learn of a repeat", x.learn(0), false);
        Check.same("ninth learn changed", Check.seen(x), before);
        Check.due("eighth is there", x.known(7), 1);
        Check.due("ninth is not", x.known(8), -1);
    }

    private static void readingKnown() {
        IntruderSearch x = sixCells();
        x.learn(1);
        x.learn(3);
        String before = Check.seen(x);
        for (int i : Check.edges()) {
            Check.due("known(" + i + ")", x.known(i), i == 0 ? 1 : i == 1 ? 3 : -1);
        }
        Check.same("known changed", Check.seen(x), before);
    }

    private static void addingSteps() {
        IntruderSearch x = sixCells();
        Check.due("addStep send", x.addStep(1, true, 5), true);
        Check.due("addStep receive", x.addStep(1, false, 2), true);
        Check.due("addStep other thread", x.addStep(0, false, 0), true);
        Check.due("addStep last thread", x.addStep(2, true, 0), true);
        Check.due("addStep repeat", x.addStep(1, true, 5), true);
        int[][] due = {{0, -1, -1}, {11, 4, 11}, {1, -1, -1}};
        for (int thread = 0; thread < 3; thread++) {
            for (int index = 0; index < 3; index++) {
                Check.due("step(" + thread + ", " + index + ")", x.step(thread, index), due[thread][index]);
            }
        }
        Check.due("nothing learned by addStep", x.known(0), -1);
        Check.due("no secret from addStep", x.secret(), -1);
    }

    private static void addingStepsRefusals() {
        IntruderSearch x = sixCells();
        String before = Check.seen(x);
        for (int edge : Check.edges()) {
            if (edge < 0 || edge > 2) {
                Check.due("addStep in thread " + edge, x.addStep(edge, true, 0), false);
            }
            if (edge < 0 || edge > 5) {
                Check.due("addStep of " + edge, x.addStep(0, edge % 2 == 0, edge), false);
            }
        }
        Check.same("refused addStep changed", Check.seen(x), before);
    }

    private static void stepsStopAtSix() {
        for (int split = 0; split <= IntruderSearch.MAX_STEPS; split++) {
            IntruderSearch x = sixCells();
            x.setSecret(0);
            for (int i = 0; i < IntruderSearch.MAX_STEPS; i++) {
                Check.due("step " + i, x.addStep(i < split ? 2 : 0, i % 2 == 0, i % 6), true);
            }
            x.search();
            String before = Check.seen(x);
            for (int thread = 0; thread < 3; thread++) {
                Check.due("seventh step", x.addStep(thread, true, 0), false);
            }
            Check.same("seventh step changed", Check.seen(x), before);
            Check.due("last of thread 2", x.step(2, split), -1);
            Check.due("last of thread 0", x.step(0, IntruderSearch.MAX_STEPS - split), -1);
        }
    }

    private static void readingSteps() {
        IntruderSearch x = sixCells();
        x.addStep(0, true, 0);
        x.addStep(2, false, 5);
        x.addStep(2, true, 5);
        String before = Check.seen(x);
        for (int thread : Check.edges()) {
            for (int index : Check.edges()) {
                int due = thread == 0 && index == 0 ? 1 : thread == 2 && index == 0 ? 10
                    : thread == 2 && index == 1 ? 11 : -1;
                Check.due("step(" + thread + ", " + index + ")", x.step(thread, index), due);
            }
        }
        Check.same("step changed", Check.seen(x), before);
    }

    private static void secrets() {
        IntruderSearch x = sixCells();
        Check.due("no secret yet", x.secret(), -1);
        for (int t : Check.edges()) {
            if (t < 0 || t > 5) {
                Check.due("setSecret(" + t + ")", x.setSecret(t), false);
            }
        }
        Check.due("still no secret", x.secret(), -1);
        Check.due("setSecret with a variable", x.setSecret(5), true);
        Check.due("secret with a variable", x.secret(), 5);
        Check.due("setSecret again", x.setSecret(0), true);
        Check.due("secret replaced", x.secret(), 0);
        Check.due("setSecret refused", x.setSecret(6), false);
        Check.due("secret is kept", x.secret(), 0);
        Check.due("nothing learned by setSecret", x.known(0), -1);
        Check.due("no step from setSecret", x.step(0, 0), -1);
    }

    private static void resets() {
        for (int call = 0; call < 4; call++) {
            for (int safe = 0; safe < 2; safe++) {
                IntruderSearch x = sixCells();
                x.learn(0);
                x.setSecret(safe == 1 ? 1 : 0);
                Check.due("search", x.search(), safe == 1 ? IntruderSearch.SAFE : IntruderSearch.ATTACK);
                if (call == 0) {
                    x.learn(0);
                } else if (call == 1) {
                    x.addStep(2, false, 5);
                } else if (call == 2) {
                    x.setSecret(x.secret());
                } else {
                    x.variable(1);
                }
                Check.same("reset by call " + call, Check.outcome(x),
                    "status 0 length -1 threads -1 -1 -1 -1 -1 -1 -1 -1 values -1 -1 -1 -1 -1");
            }
        }
    }

    private static void refusedCallsKeepTheTrace() {
        IntruderSearch x = sixCells();
        x.addStep(1, true, 0);
        x.setSecret(0);
        x.search();
        String before = Check.seen(x);
        Check.due("attack of one step", x.traceLength(), 1);
        x.learn(2);
        x.learn(-1);
        x.addStep(3, true, 0);
        x.addStep(0, true, 6);
        x.setSecret(6);
        x.setSecret(-1);
        Check.same("refused calls changed", Check.seen(x), before);
    }
}
