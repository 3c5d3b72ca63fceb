/**
 * Ready-made objects for the boundary tests, with any of the document's limits reached and any status,
 * and the look at a refused call. Limits are written as numbers here, so that a wrong constant shows.
 */
final class Scene {
    /** What is full; these add up. */
    static final int NOTHING = 0;
    static final int ATOMS = 1;
    static final int CELLS = 2;
    static final int KNOWN = 4;
    static final int STEPS = 8;
    static final int ALL = 15;

    /** The cells that every scene has. */
    static final int HIDDEN = 0;
    static final int SPY = 1;
    static final int VARIABLE = 2;
    static final int SENT = 3;
    static final int WITH_VARIABLE = 4;
    static final int LOCKED = 5;
    static final int SIZE_15 = 8;
    static final int SIZE_31 = 9;
    static final int OWN_CELLS = 10;

    static final String NO_OUTCOME = "length -1 threads -1 -1 -1 -1 -1 -1 -1 -1 values -1 -1 -1 -1 -1";

    /** A call with its answer as a number; a boolean counts 1 or 0. */
    interface Call {
        long on(IntruderSearch x);
    }

    private Scene() {
    }

    static long number(boolean answer) {
        return answer ? 1 : 0;
    }

    static IntruderSearch atoms(int count) {
        IntruderSearch x = new IntruderSearch();
        for (int i = 0; i < count; i++) {
            x.atom(false);
        }
        return x;
    }

    static int cellsOf(IntruderSearch x) {
        int count = 0;
        while (count < 65 && x.cell(count, 0) != -1) {
            count++;
        }
        return count;
    }

    /** Composes small terms until the table has that many cells. */
    static void fill(IntruderSearch x, int cells) {
        int made = cellsOf(x);
        for (int a = 0; a < 6 && made < cells; a++) {
            for (int b = 0; b < 6 && made < cells; b++) {
                for (int op = 3; op <= 5 && made < cells; op++) {
                    // A term that was there already makes no cell.
                    made += x.compose(op, a < made ? a : 0, b < made ? b : 0) == made ? 1 : 0;
                }
            }
        }
        Check.due("cells after filling", cellsOf(x), cells);
    }

    /** A scene without secret. The hidden atom can never be derived; the sent one once thread 1 has sent it. */
    static IntruderSearch withoutSecret(int full) {
        IntruderSearch x = new IntruderSearch();
        x.atom(false);
        x.atom(true);
        x.variable(1);
        x.atom(false);
        x.compose(3, SENT, VARIABLE);
        x.compose(4, SENT, HIDDEN);
        x.compose(3, SENT, SENT);
        x.compose(3, 6, 6);
        x.compose(3, 7, 7);
        x.compose(3, SIZE_15, SIZE_15);
        Check.due("cells of the scene", cellsOf(x), OWN_CELLS);
        Check.due("greatest size of the scene", x.cell(SIZE_31, 3), 31);
        x.learn(SPY);
        x.learn(LOCKED);
        x.addStep(1, true, SENT);
        x.addStep(1, false, WITH_VARIABLE);
        x.addStep(2, false, VARIABLE);
        fillUp(x, full);
        return x;
    }

    private static void fillUp(IntruderSearch x, int full) {
        for (int i = 3; (full & ATOMS) != 0 && i < 8; i++) {
            Check.due("atom " + i + " of the scene", x.atom(i % 2 == 0) >= OWN_CELLS, true);
        }
        for (int i = 2; (full & KNOWN) != 0 && i < 8; i++) {
            Check.due("known " + i + " of the scene", x.learn(SPY), true);
        }
        for (int i = 3; (full & STEPS) != 0 && i < 6; i++) {
            Check.due("step " + i + " of the scene", x.addStep(0, false, HIDDEN), true);
        }
        if ((full & CELLS) != 0) {
            fill(x, 64);
        }
    }

    /** A scene with that status; the attack is one step of thread 1, and gives the spy to variable 1. */
    static IntruderSearch make(int full, int status) {
        IntruderSearch x = withoutSecret(full);
        x.setSecret(status == 1 ? HIDDEN : WITH_VARIABLE);
        if (status != 0) {
            Check.due("search of the scene", x.search(), status);
        }
        Check.same("outcome of the scene", Check.outcome(x), status != 2 ? "status " + status + " " + NO_OUTCOME
            : "status 2 length 1 threads -1 1 -1 -1 -1 -1 -1 -1 values -1 -1 1 -1 -1");
        return x;
    }

    /** In each status: the call answers as due, no getter answers anything else after it, and no later call either. */
    static void refused(String what, int full, long due, Call call) {
        for (int status = 0; status <= 2; status++) {
            refusedBy(what + ", status " + status, make(full, status), make(full, status), due, call);
        }
    }

    /** As above, for two objects made by the same calls: the second one is spared the refused call. */
    static void refusedBy(String what, IntruderSearch x, IntruderSearch spared, long due, Call call) {
        String before = Check.seen(x);
        Check.due(what, call.on(x), due);
        Check.same(what + ": what the getters answer after it", Check.seen(x), before);
        Check.due(what + ", once more", call.on(x), due);
        Check.same(what + ": what the getters answer after two of it", Check.seen(x), before);
        Check.same(what + ": what later calls answer", course(x), course(spared));
    }

    /** In each status: the call answers true or an id, and then the status is NOT_SEARCHED and there is no trace. */
    static void resets(String what, long due, Call call) {
        for (int status = 0; status <= 2; status++) {
            IntruderSearch x = make(NOTHING, status);
            Check.due(what + ", status " + status, call.on(x), due);
            Check.same(what + ", status " + status + ": reset", Check.outcome(x), "status 0 " + NO_OUTCOME);
        }
    }

    /** A run of all kinds of calls that make or change something, as far as there is room, with all answers. */
    private static String course(IntruderSearch x) {
        StringBuilder text = new StringBuilder();
        text.append(x.search()).append(' ');
        text.append(x.compose(5, 0, 0)).append(' ').append(x.atom(true)).append(' ');
        for (int v = 0; v < 3; v++) {
            text.append(x.variable(v)).append(' ').append(x.addStep(v, true, v)).append(' ');
        }
        text.append(x.learn(0)).append(' ').append(x.setSecret(x.compose(3, 0, 1))).append(' ');
        text.append(x.search()).append(' ').append(Check.seen(x)).append(' ');
        text.append(x.setSecret(Math.max(0, cellsOf(x) - 1))).append(' ');
        return text.append(x.search()).append(' ').append(Check.seen(x)).toString();
    }
}
