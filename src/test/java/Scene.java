/**
 * Ready-made objects for the boundary tests, with any of the document's limits reached and any status,
 * and the look at a refused call. Limits are written as numbers here, so that a wrong constant shows.
 */
final class Scene {
    /** What is full; these add up. */
    static final int NOTHING = 0;
    static final int ATOMS = 1;
    static final int CELLS = 2;
    static final int KNOWN = 4;
    static final int STEPS = 8;
    static final int VARIABLES = 16;
    static final int ALL = 31;

    /** The cells that every scene has. */
    static final int HIDDEN = 0;
    static final int SPY = 1;
    static final int VARIABLE = 2;
    static final int SENT = 3;
    static final int WITH_VARIABLE = 4;
    static final int LOCKED = 5;
    static final int SIZE_15 = 8;
    static final int SIZE_31 = 9;
    static final int OWN_CELLS = 10;

    static final String NO_OUTCOME = "length -1 threads -1 -1 -1 -1 -1 -1 -1 -1 values -1 -1 -1 -1 -1";

    /** A call with its answer as a number; a boolean counts 1 or 0. */
    interface Call {
        long on(IntruderSearch x);
    }

    /** Makes an object, the same one each time. */
    interface Maker {
        IntruderSearch make();
    }

    /** What some of the getters tell. */
    interface Part {
        String of(IntruderSearch x);
    }

    private Scene() {
    }

    static long number(boolean answer) {
        return answer ? 1 : 0;
    }

    static IntruderSearch atoms(int count) {
        IntruderSearch x = new IntruderSearch();
        for (int i = 0; i < count; i++) {
            x.atom(false);
        }
        return x;
    }

    static int cellsOf(IntruderSearch x) {
        int count = 0;
        while (count < 65 && x.cell(count, 0) != -1) {
            count++;
        }
        return count;
    }

    /** Composes small terms until the table has that many cells. */
    static void fill(IntruderSearch x, int cells) {
        int made = cellsOf(x);
        for (int a = 0; a < 6 && made < cells; a++) {
            for (int b = 0; b < 6 && made < cells; b++) {
                for (int op = 3; op <= 5 && made < cells; op++) {
                    // A term that was there already makes no cell.
                    made += x.compose(op, a < made ? a : 0, b < made ? b : 0) == made ? 1 : 0;
                }
            }
        }
        Check.due("cells after filling", cellsOf(x), cells);
    }

    /** The cells of every scene, without anything learned, any step or any secret. */
    static IntruderSearch cellsOnly() {
        IntruderSearch x = new IntruderSearch();
        x.atom(false);
        x.atom(true);
        x.variable(1);
        x.atom(false);
        x.compose(3, SENT, VARIABLE);
        x.compose(4, SENT, HIDDEN);
        x.compose(3, SENT, SENT);
        x.compose(3, 6, 6);
        x.compose(3, 7, 7);
        x.compose(3, SIZE_15, SIZE_15);
        return x;
    }

    /** A scene without secret. The hidden atom can never be derived; the sent one once thread 1 has sent it. */
    static IntruderSearch withoutSecret(int full) {
        IntruderSearch x = cellsOnly();
        x.learn(SPY);
        x.learn(LOCKED);
        x.addStep(1, true, SENT);
        x.addStep(1, false, WITH_VARIABLE);
        x.addStep(2, false, VARIABLE);
        x.addStep(0, false, HIDDEN);
        fillUp(x, full);
        looksRight(x, full);
        return x;
    }

    private static void fillUp(IntruderSearch x, int full) {
        for (int i = 3; (full & ATOMS) != 0 && i < 8; i++) {
            Check.due("atom " + i + " of the scene", x.atom(i % 2 == 0) >= OWN_CELLS, true);
        }
        for (int i = 2; (full & KNOWN) != 0 && i < 8; i++) {
            Check.due("known " + i + " of the scene", x.learn(SPY), true);
        }
        for (int i = 4; (full & STEPS) != 0 && i < 6; i++) {
            Check.due("step " + i + " of the scene", x.addStep(0, false, HIDDEN), true);
        }
        if ((full & VARIABLES) != 0) {
            Check.due("variable 0 of the scene", x.variable(0) >= OWN_CELLS, true);
            Check.due("variable 2 of the scene", x.variable(2) >= OWN_CELLS, true);
        }
        if ((full & CELLS) != 0) {
            fill(x, 64);
        }
    }

    /** The scene was made by accepted calls; this sees to it that none of them did more than it should. */
    static void looksRight(IntruderSearch x, int full) {
        int[][] cells = {{1, 0, 0, 1}, {1, 1, 1, 1}, {2, 1, 0, 1}, {1, 2, 0, 1}, {3, 3, 2, 3},
            {4, 3, 0, 3}, {3, 3, 3, 3}, {3, 6, 6, 7}, {3, 7, 7, 15}, {3, 8, 8, 31}};
        for (int t = 0; t < OWN_CELLS; t++) {
            for (int field = 0; field < 4; field++) {
                Check.due("scene's cell(" + t + ", " + field + ")", x.cell(t, field), cells[t][field]);
            }
        }
        int more = ((full & ATOMS) != 0 ? 5 : 0) + ((full & VARIABLES) != 0 ? 2 : 0);
        Check.due("scene's cells", cellsOf(x), (full & CELLS) != 0 ? 64 : OWN_CELLS + more);
        Check.same("scene's K0", Check.known(x),
            (full & KNOWN) != 0 ? " known 1 5 1 1 1 1 1 1" : " known 1 5 -1 -1 -1 -1 -1 -1");
        Check.same("scene's steps", Check.steps(x),
            ((full & STEPS) != 0 ? " steps 0 0 0 -1 -1 -1" : " steps 0 -1 -1 -1 -1 -1")
            + " 7 8 -1 -1 -1 -1 4 -1 -1 -1 -1 -1");
    }

    /**
     * A scene with that status; the attack is one step of thread 1, and gives the spy to variable 1 and
     * the first atom to the others.
     */
    static IntruderSearch make(int full, int status) {
        IntruderSearch x = withoutSecret(full);
        x.setSecret(status == 1 ? HIDDEN : WITH_VARIABLE);
        if (status != 0) {
            Check.due("search of the scene", x.search(), status);
        }
        String values = (full & VARIABLES) != 0 ? "-1 0 1 0 -1" : "-1 -1 1 -1 -1";
        Check.same("outcome of the scene", Check.outcome(x), status != 2 ? "status " + status + " " + NO_OUTCOME
            : "status 2 length 1 threads -1 1 -1 -1 -1 -1 -1 -1 values " + values);
        // Only the outcome is read after the search: another getter that drops it must not spoil the scene.
        return x;
    }

    /** In each status: the call answers as due, no getter answers anything else after it, and no later call either. */
    static void refused(String what, int full, long due, Call call) {
        for (int status = 0; status <= 2; status++) {
            refusedBy(what + ", status " + status, scene(full, status), due, call);
        }
    }

    static Maker scene(int full, int status) {
        return () -> make(full, status);
    }

    static Maker sceneWithoutSecret(int full) {
        return () -> withoutSecret(full);
    }

    /** As above, for the objects of one maker. */
    static void refusedBy(String what, Maker maker, long due, Call call) {
        keepsOutcome(what, maker.make(), due, call);
        IntruderSearch x = maker.make();
        IntruderSearch spared = maker.make();
        String before = Check.seen(x);
        Check.due(what, call.on(x), due);
        Check.same(what + ": what the getters answer after it", Check.seen(x), before);
        Check.due(what + ", once more", call.on(x), due);
        Check.same(what + ": what the getters answer after two of it", Check.seen(x), before);
        Check.same(what + ": what later calls answer", course(x), course(spared));
    }

    /** Asks nothing else beforehand: where another getter drops the outcome, it would hide that the call does so. */
    private static void keepsOutcome(String what, IntruderSearch x, long due, Call call) {
        String before = Check.outcome(x);
        Check.due(what, call.on(x), due);
        Check.same(what + ": status and trace after it", Check.outcome(x), before);
    }

    /** In each status: the call answers as due, and then the status is NOT_SEARCHED and there is no trace. */
    static void resets(String what, long due, Call call) {
        for (int status = 0; status <= 2; status++) {
            IntruderSearch x = make(NOTHING, status);
            Check.due(what + ", status " + status, call.on(x), due);
            Check.same(what + ", status " + status + ": reset", Check.outcome(x), "status 0 " + NO_OUTCOME);
        }
    }

    /** The call is accepted and leaves these parts as they were; the room that is left is as said. */
    static void leaves(String what, IntruderSearch x, String room, long due, Call call, Part... parts) {
        String[] before = new String[parts.length];
        for (int i = 0; i < parts.length; i++) {
            before[i] = parts[i].of(x);
        }
        Check.due(what, call.on(x), due);
        for (int i = 0; i < parts.length; i++) {
            Check.same(what + ": a part that it leaves", parts[i].of(x), before[i]);
        }
        Check.same(what + ": room after it", room(x), room);
    }

    /**
     * All kinds of calls that make or change something, until they are refused, with all answers: what a
     * getter does not tell, such as how much more there is room for, shows here.
     */
    private static String course(IntruderSearch x) {
        StringBuilder text = new StringBuilder();
        if (x.secret() != -1) {
            text.append(x.search()).append(Check.outcome(x));
        }
        for (int t = 0; t < OWN_CELLS; t++) {
            text.append(x.learn(t) ? '+' : '-');
        }
        for (int i = 0; i < 7; i++) {
            text.append(x.addStep(i % 3, i % 2 == 0, i) ? '+' : '-');
        }
        text.append(x.compose(5, 0, 0)).append(x.setSecret(x.compose(3, 0, 1)));
        // The getters come last: if one of them is at fault, the spared object must not meet it earlier.
        text.append(x.search()).append(Check.outcome(x));
        for (int i = 0; i < 9; i++) {
            text.append(' ').append(x.atom(i % 2 == 0));
        }
        for (int v = 0; v < 3; v++) {
            text.append(' ').append(x.variable(v));
        }
        for (int code = 0; code < 108; code++) {
            text.append(' ').append(x.compose(3 + code % 3, code / 3 % 6, code / 18));
        }
        return text.append(Check.seen(x)).toString();
    }

    /** How much more there is room for; it is used up by this. */
    private static String room(IntruderSearch x) {
        int known = 0;
        while (known < 9 && x.learn(HIDDEN)) {
            known++;
        }
        int steps = 0;
        while (steps < 7 && x.addStep(steps % 3, true, HIDDEN)) {
            steps++;
        }
        int atoms = 0;
        while (atoms < 9 && x.atom(false) != -1) {
            atoms++;
        }
        return known + " to learn, " + steps + " steps, " + atoms + " atoms";
    }
}
