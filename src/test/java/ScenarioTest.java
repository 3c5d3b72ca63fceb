/** Promises 6, 7, 9, 10 and 11 with ordinary inputs: K0, the threads' steps and the secret. */
public final class ScenarioTest {
    public static void main(String[] args) {
        learning();
        addingSteps();
        secrets();
        Check.end();
    }

    /** Cells 0 and 1 are atoms, 2 is a variable, 3 is ground, 4 and 5 hold the variable. */
    private static IntruderSearch sixCells() {
        IntruderSearch x = new IntruderSearch();
        x.atom(false);
        x.atom(true);
        x.variable(0);
        x.compose(IntruderSearch.PAIR, 0, 1);
        x.compose(IntruderSearch.SENC, 2, 1);
        x.compose(IntruderSearch.PAIR, 3, 4);
        return x;
    }

    private static void learning() {
        IntruderSearch x = sixCells();
        Check.due("learn(3)", x.learn(3), true);
        Check.due("learn(0)", x.learn(0), true);
        Check.due("learn(3) again", x.learn(3), true);
        int[] due = {3, 0, 3, -1};
        for (int i = 0; i < due.length; i++) {
            Check.due("known(" + i + ")", x.known(i), due[i]);
        }
        Check.due("no step from learn", x.step(0, 0), -1);
        Check.due("no secret from learn", x.secret(), -1);
        Check.due("no cell from learn", x.cell(6, 0), -1);
    }

    private static void addingSteps() {
        IntruderSearch x = sixCells();
        Check.due("addStep send", x.addStep(1, true, 5), true);
        Check.due("addStep receive", x.addStep(1, false, 2), true);
        Check.due("addStep other thread", x.addStep(0, false, 0), true);
        Check.due("addStep last thread", x.addStep(2, true, 0), true);
        Check.due("addStep repeat", x.addStep(1, true, 5), true);
        int[][] due = {{0, -1, -1}, {11, 4, 11}, {1, -1, -1}};
        for (int thread = 0; thread < 3; thread++) {
            for (int index = 0; index < 3; index++) {
                Check.due("step(" + thread + ", " + index + ")", x.step(thread, index), due[thread][index]);
            }
        }
        Check.due("nothing learned by addStep", x.known(0), -1);
        Check.due("no secret from addStep", x.secret(), -1);
    }

    private static void secrets() {
        IntruderSearch x = sixCells();
        Check.due("no secret yet", x.secret(), -1);
        Check.due("setSecret with a variable", x.setSecret(5), true);
        Check.due("secret with a variable", x.secret(), 5);
        Check.due("setSecret again", x.setSecret(0), true);
        Check.due("secret replaced", x.secret(), 0);
        Check.due("nothing learned by setSecret", x.known(0), -1);
        Check.due("no step from setSecret", x.step(0, 0), -1);
    }
}
