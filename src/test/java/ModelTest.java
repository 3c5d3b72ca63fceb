/**
 * All promises at once: long runs of calls, right and wrong ones, on the program and on the model side
 * by side. The runs come from a fixed seed, so that they are the same every time.
 */
public final class ModelTest {
    private static final int RUNS = 4000;
    private static final int SCENARIOS = 20000;

    private long seed;
    private final IntruderSearch program = new IntruderSearch();
    private final Model model = new Model();
    private final StringBuilder calls = new StringBuilder();

    private ModelTest(long seed) {
        this.seed = seed * 0x9E3779B97F4A7C15L + 1;
    }

    public static void main(String[] args) {
        for (int run = 0; run < RUNS; run++) {
            new ModelTest(run).mixedCalls();
        }
        int[] outcomes = new int[8];
        for (int run = 0; run < SCENARIOS; run++) {
            outcomes[new ModelTest(RUNS + run).scenario()]++;
        }
        // The runs are worth something only if they reach every outcome, 0 to 6 steps and SAFE.
        for (int i = 0; i < outcomes.length; i++) {
            System.out.println((i < 7 ? "attacks of " + i + " steps: " : "safe: ") + outcomes[i]);
            Check.due("outcome " + i + " is reached", outcomes[i] > 0, true);
        }
        Check.end();
    }

    private int pick(int bound) {
        seed = seed * 6364136223846793005L + 1442695040888963407L;
        return (int) ((seed >>> 33) % bound);
    }

    private int made() {
        int count = 0;
        while (count < 64 && program.cell(count, 0) != -1) {
            count++;
        }
        return count;
    }

    /** Mostly a valid id, now and then a wrong one. */
    private int anyTerm() {
        if (pick(12) == 0) {
            int[] edges = Check.edges();
            return edges[pick(edges.length)];
        }
        return pick(made() + 1);
    }

    private void compare(String call, long got, long want) {
        calls.append(call).append(' ');
        Check.due("after " + calls + "the last one", got, want);
    }

    private static long number(boolean answer) {
        return answer ? 1L : 0L;
    }

    private void mixedCalls() {
        int length = 20 + pick(60);
        int mostAtoms = 1 + pick(pick(10) == 0 ? 9 : 3);
        int mostVariables = pick(pick(10) == 0 ? 4 : 3);
        for (int i = 0; i < length; i++) {
            oneCall(mostAtoms, mostVariables);
            if (pick(8) == 0) {
                compareGetters();
            }
        }
        compareGetters();
    }

    private void oneCall(int mostAtoms, int mostVariables) {
        switch (pick(16)) {
            case 0:
                if (mostAtoms > 8 || countKind(IntruderSearch.ATOM) < mostAtoms) {
                    atom(pick(4) == 0);
                }
                break;
            case 1:
                variable(pick(10) == 0 ? pick(9) - 4 : mostVariables == 0 ? 3 : pick(mostVariables));
                break;
            case 2: case 3:
                learn(anyTerm());
                break;
            case 4: case 5: case 6:
                addStep(pick(12) == 0 ? pick(9) - 4 : pick(3), pick(2) == 0, anyTerm());
                break;
            case 7:
                setSecret(anyTerm());
                break;
            case 8: case 9:
                search();
                break;
            default:
                compose(pick(12) == 0 ? pick(9) - 1 : 3 + pick(3), anyTerm(), anyTerm());
                break;
        }
    }

    private int countKind(int kind) {
        int count = 0;
        for (int t = 0; t < 64; t++) {
            count += program.cell(t, 0) == kind ? 1 : 0;
        }
        return count;
    }

    /** Builds a whole scenario whose terms fit each other often enough for long attacks; answers its outcome. */
    private int scenario() {
        int atoms = 2 + pick(3);
        int variables = pick(3);
        for (int i = 0; i < atoms; i++) {
            atom(pick(4) == 0);
        }
        for (int v = 0; v < variables; v++) {
            variable(pick(3));
        }
        int leaves = made();
        for (int i = 0; i < 6; i++) {
            compose(3 + pick(3), pick(leaves), pick(leaves));
        }
        for (int i = 0; i < 5; i++) {
            compose(pick(3) == 0 ? 3 : 3 + pick(3), pick(made()), pick(leaves));
        }
        for (int i = pick(4); i > 0; i--) {
            learn(pick(made()));
        }
        int threads = 1 + pick(3);
        for (int i = 0; i < 6; i++) {
            addStep(pick(threads), pick(5) < 2, pick(made()));
        }
        setSecret(pick(made()));
        int answer = search();
        compareGetters();
        return answer == IntruderSearch.ATTACK ? program.traceLength() : 7;
    }

    private void atom(boolean compromised) {
        compare("atom(" + compromised + ")", program.atom(compromised), model.atom(compromised));
    }

    private void variable(int v) {
        compare("variable(" + v + ")", program.variable(v), model.variable(v));
    }

    private void compose(int op, int a, int b) {
        compare("compose(" + op + "," + a + "," + b + ")", program.compose(op, a, b), model.compose(op, a, b));
    }

    private void learn(int t) {
        compare("learn(" + t + ")", number(program.learn(t)), number(model.learn(t)));
    }

    private void addStep(int thread, boolean send, int t) {
        compare("addStep(" + thread + "," + send + "," + t + ")",
            number(program.addStep(thread, send, t)), number(model.addStep(thread, send, t)));
    }

    private void setSecret(int t) {
        compare("setSecret(" + t + ")", number(program.setSecret(t)), number(model.setSecret(t)));
    }

    private int search() {
        int answer = program.search();
        compare("search()", answer, model.search());
        return answer;
    }

    private void compareGetters() {
        String after = "after " + calls;
        for (int t = -1; t <= 64; t++) {
            for (int field = -1; field <= 4; field++) {
                Check.due(after + "cell", program.cell(t, field), model.cell(t, field));
            }
            Check.due(after + "derivable(" + t + ")", program.derivable(t), model.derivable(t));
        }
        for (int i = -1; i <= 8; i++) {
            Check.due(after + "known(" + i + ")", program.known(i), model.known(i));
            Check.due(after + "traceThread(" + i + ")", program.traceThread(i), model.traceThread(i));
            Check.due(after + "value(" + i + ")", program.value(i), model.value(i));
            for (int index = -1; index <= 6; index++) {
                Check.due(after + "step(" + i + "," + index + ")", program.step(i, index), model.step(i, index));
            }
        }
        Check.due(after + "secret()", program.secret(), model.secret());
        Check.due(after + "status()", program.status(), model.status());
        Check.due(after + "traceLength()", program.traceLength(), model.traceLength());
    }
}
