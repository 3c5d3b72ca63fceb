/** The boundary cases of "Terms" and of promises 1 to 5, sentence by sentence. */
public final class BoundaryCellsTest {
    private static final int[] OUTSIDE = {Integer.MIN_VALUE, Integer.MIN_VALUE + 1, -256, -65, -64, -2, -1,
        64, 65, 128, 256, 1 << 16, Integer.MAX_VALUE - 1, Integer.MAX_VALUE};

    public static void main(String[] args) {
        terms();
        emptyStart();
        makingAnAtom();
        declaringAVariable();
        composing();
        readingACell();
        fullTableWithoutAtom();
        Check.end();
    }

    private static void terms() {
        tableHoldsSixtyFourCells();
        idsAreValidBelowTheCount();
        cellsNeverChange();
        atomNumbersAreNotIds();
        oneCellForEachVariable();
        declaredWithItsCell();
        keysMayBeAnyTerm();
        sizesAddUp();
        noTwoEqualComposites();
        distinctCellsAreDistinctTrees();
        groundMeansNoVariable();
    }

    private static void tableHoldsSixtyFourCells() {
        Check.sentence("Terms: at most MAX_CELLS cells with ids 0, 1, 2, ... in order of creation");
        IntruderSearch x = Scene.atoms(8);
        int made = 8;
        for (int a = 0; made < 64; a++) {
            for (int b = 0; b < 8 && made < 64; b++) {
                Check.due("id of a new cell", x.compose(3, a, b), made);
                made++;
            }
        }
        Check.due("a 65th cell", x.compose(4, 0, 0), -1);
        Check.due("the last cell's kind", x.cell(63, 0), 3);
        Check.due("cell 64", x.cell(64, 0), -1);
    }

    private static void idsAreValidBelowTheCount() {
        Check.sentence("Terms: an id t is valid iff 0 <= t < number of cells made");
        for (int count = 1; count <= 64; count++) {
            IntruderSearch x = Scene.atoms(1);
            Scene.fill(x, count);
            Check.due("first id", isValidFor(x, 0, 0), true);
            Check.due("last id of " + count, isValidFor(x, count - 1, count - 1), true);
            Check.due("id after the last of " + count, isValidFor(x, count, 0), false);
            Check.due("id before the first", isValidFor(x, -1, 0), false);
            for (int t : OUTSIDE) {
                Check.due("id " + t, isValidFor(x, t, 0), false);
            }
        }
    }

    /** All calls that take an id must agree; valid is the id that they take where the other one is asked about. */
    private static boolean isValidFor(IntruderSearch x, int t, int valid) {
        boolean read = x.cell(t, 0) != -1;
        Check.due("setSecret(" + t + ")", x.setSecret(t), read);
        Check.due("learn(" + t + ")", x.learn(t), read);
        Check.due("addStep of " + t, x.addStep(0, true, t), read);
        if (!read) {
            Check.due("compose(3, " + t + ", " + valid + ")", x.compose(3, t, valid), -1);
            Check.due("compose(3, " + valid + ", " + t + ")", x.compose(3, valid, t), -1);
            Check.due("derivable(" + t + ")", x.derivable(t), false);
        }
        return read;
    }

    private static void cellsNeverChange() {
        Check.sentence("Terms: cells are never removed or changed");
        IntruderSearch x = Scene.make(Scene.NOTHING, 2);
        StringBuilder before = new StringBuilder();
        appendCells(before, x, Scene.OWN_CELLS);
        x.compose(5, 0, 0);
        x.atom(true);
        x.variable(0);
        x.learn(0);
        x.addStep(0, true, 0);
        x.setSecret(0);
        x.search();
        Scene.fill(x, 64);
        x.compose(5, 0, 63);
        x.variable(2);
        x.atom(true);
        StringBuilder after = new StringBuilder();
        appendCells(after, x, Scene.OWN_CELLS);
        Check.same("cells of the scene", after.toString(), before.toString());
    }

    private static void appendCells(StringBuilder text, IntruderSearch x, int count) {
        for (int t = 0; t < count; t++) {
            for (int field = 0; field < 4; field++) {
                text.append(' ').append(x.cell(t, field));
            }
        }
    }

    private static void atomNumbersAreNotIds() {
        Check.sentence("Terms: atoms get atom numbers 0, 1, ... in order of creation, at most MAX_ATOMS of them");
        IntruderSearch x = new IntruderSearch();
        x.variable(0);
        for (int number = 0; number < 8; number++) {
            int id = x.atom(number % 3 == 0);
            Check.due("id of atom " + number, id, 2 * number + 1);
            Check.due("number of atom " + number, x.cell(id, 1), number);
            Check.due("flag of atom " + number, x.cell(id, 2), number % 3 == 0 ? 1 : 0);
            x.compose(3, 0, id);
        }
        Check.due("a ninth atom", x.atom(false), -1);
        Check.due("nothing made by it", x.cell(17, 0), -1);
    }

    private static void oneCellForEachVariable() {
        Check.sentence("Terms: VAR: variable v, with 0 <= v < MAX_VARS; at most one cell per v");
        IntruderSearch x = new IntruderSearch();
        for (int round = 0; round < 3; round++) {
            for (int v = 2; v >= 0; v--) {
                Check.due("variable(" + v + ")", x.variable(v), 2 - v);
            }
        }
        Check.due("a fourth cell", x.cell(3, 0), -1);
        Check.due("variable(3)", x.variable(3), -1);
        Check.due("variable(-1)", x.variable(-1), -1);
    }

    private static void declaredWithItsCell() {
        Check.sentence("Terms: a variable is declared iff its cell exists");
        for (int declared = 0; declared < 8; declared++) {
            IntruderSearch x = Scene.atoms(1);
            x.learn(0);
            for (int v = 0; v < 3; v++) {
                if ((declared >> v & 1) != 0) {
                    x.variable(v);
                }
            }
            x.setSecret(0);
            Check.due("search", x.search(), 2);
            for (int v = 0; v < 3; v++) {
                Check.due("value(" + v + ") of " + declared, x.value(v), (declared >> v & 1) != 0 ? 0 : -1);
            }
        }
    }

    private static void keysMayBeAnyTerm() {
        Check.sentence("Terms: SENC(m,k) and AENC(m,a), where k and a may be any term");
        for (int op = 4; op <= 5; op++) {
            IntruderSearch x = Scene.atoms(1);
            x.variable(0);
            x.compose(3, 0, 1);
            x.compose(4, 0, 1);
            x.compose(5, 1, 0);
            for (int key = 0; key < 5; key++) {
                int made = x.compose(op, 2, key);
                Check.due("a key of kind " + x.cell(key, 0), made, 5 + key);
                Check.due("the key's id", x.cell(made, 2), key);
            }
        }
    }

    private static void sizesAddUp() {
        Check.sentence("Terms: the size is 1 for ATOM and VAR, and 1 + size(first) + size(second) for the other kinds");
        for (int op = 3; op <= 5; op++) {
            IntruderSearch x = Scene.atoms(1);
            x.variable(2);
            Check.due("size of an atom", x.cell(0, 3), 1);
            Check.due("size of a variable", x.cell(1, 3), 1);
            Check.due("size of two leaves", x.cell(x.compose(op, 0, 1), 3), 3);
            Check.due("size of 3 and 1", x.cell(x.compose(op, 2, 0), 3), 5);
            Check.due("size of 1 and 3", x.cell(x.compose(op, 1, 2), 3), 5);
            Check.due("size of 5 and 3", x.cell(x.compose(op, 3, 2), 3), 9);
            Check.due("size of 9 and 9", x.cell(x.compose(op, 5, 5), 3), 19);
            Check.sentence("Terms: no cell has size above MAX_SIZE");
            Check.due("size of 19 and 11", x.compose(op, 6, x.compose(op, 5, 0)), 8);
            Check.due("and that is", x.cell(8, 3), 31);
            Check.due("size of 19 and 13", x.compose(op, 6, x.compose(op, 5, 2)), -1);
            Check.due("size of 31 and 1", x.compose(op, 8, 0), -1);
        }
    }

    private static void noTwoEqualComposites() {
        Check.sentence("Terms: no two composite cells have equal kind, first and second");
        IntruderSearch x = Scene.atoms(2);
        int next = 2;
        for (int round = 0; round < 2; round++) {
            next = 2;
            for (int op = 3; op <= 5; op++) {
                for (int a = 0; a < 2; a++) {
                    for (int b = 0; b < 2; b++) {
                        Check.due("compose(" + op + ", " + a + ", " + b + ")", x.compose(op, a, b), next);
                        next++;
                    }
                }
            }
        }
        Check.due("cells made in two rounds", Scene.cellsOf(x), next);
    }

    private static void distinctCellsAreDistinctTrees() {
        Check.sentence("Terms: distinct cells denote distinct trees");
        IntruderSearch x = Scene.atoms(1);
        x.variable(1);
        for (int round = 0; round < 2; round++) {
            for (int code = 0; code < 48; code++) {
                x.compose(3 + code % 3, code / 3 % 4, code / 12);
            }
        }
        int count = Scene.cellsOf(x);
        Check.due("cells after two rounds", count, 50);
        // The parts of a cell are older than it, so that they are unfolded before it.
        String[] trees = new String[count];
        for (int t = 0; t < count; t++) {
            boolean leaf = x.cell(t, 0) < 3;
            trees[t] = x.cell(t, 0) + (leaf ? "." + x.cell(t, 1)
                : "(" + trees[x.cell(t, 1)] + "," + trees[x.cell(t, 2)] + ")");
            for (int u = 0; u < t; u++) {
                Check.due("cells " + u + " and " + t + " are equal", trees[u].equals(trees[t]), false);
            }
        }
    }

    private static void groundMeansNoVariable() {
        Check.sentence("Terms: a term is ground iff no VAR cell occurs in it");
        for (int op = 3; op <= 5; op++) {
            IntruderSearch x = Scene.atoms(2);
            int v = x.variable(0);
            int ground = x.compose(op, 0, 1);
            int first = x.compose(op, v, 0);
            int second = x.compose(op, 0, v);
            int both = x.compose(op, v, v);
            int deepFirst = x.compose(op, x.compose(op, first, 0), 1);
            int deepSecond = x.compose(op, 1, x.compose(op, 0, second));
            int groundDeep = x.compose(op, ground, x.compose(op, 1, ground));
            int[] open = {v, first, second, both, deepFirst, deepSecond};
            for (int t : open) {
                Check.due("learn of a term with a variable", x.learn(t), false);
            }
            int[] closed = {0, 1, ground, groundDeep};
            for (int t : closed) {
                Check.due("learn of a ground term", x.learn(t), true);
            }
            for (int t : open) {
                Check.due("derivable of a term with a variable", x.derivable(t), false);
            }
        }
    }

    private static void emptyStart() {
        Check.sentence("Promise 1: no cells and no atoms");
        Check.due("id of the first cell", new IntruderSearch().variable(2), 0);
        IntruderSearch x = new IntruderSearch();
        Check.due("id of the first atom", x.atom(true), 0);
        Check.due("number of the first atom", x.cell(0, 1), 0);
        Check.sentence("Promise 1: so no variable is declared");
        for (int v = 0; v < 3; v++) {
            Check.due("variable(" + v + ") is new", x.variable(v), v + 1);
        }
        Check.sentence("Promise 1: K0 empty");
        for (int i = 0; i < 8; i++) {
            Check.due("room for known " + i, x.learn(0), true);
        }
        Check.sentence("Promise 1: all threads empty (n_0 = n_1 = n_2 = 0)");
        for (int i = 0; i < 6; i++) {
            Check.due("step(" + i % 3 + ", " + i / 3 + ") before", x.step(i % 3, i / 3), -1);
            Check.due("room for step " + i, x.addStep(i % 3, true, 0), true);
            Check.due("step(" + i % 3 + ", " + i / 3 + ") after", x.step(i % 3, i / 3), 1);
        }
        Check.sentence("Promise 1: no secret");
        Check.due("secret() of a new object", new IntruderSearch().secret(), -1);
        Check.due("search() with all but a secret", x.search(), 3);
        Check.sentence("Promise 1: status NOT_SEARCHED and no trace");
        Check.same("outcome of a new object", Check.outcome(new IntruderSearch()), "status 0 " + Scene.NO_OUTCOME);
        emptyGetters();
        Check.sentence("Promise 1: search() answers NO_SECRET");
        Scene.refusedBy("search()", IntruderSearch::new, 3, IntruderSearch::search);
        emptyObjectRefuses();
    }

    private static void emptyGetters() {
        IntruderSearch x = new IntruderSearch();
        Check.sentence("Promise 1: cell, known, step, secret, traceLength, traceThread and value answer -1"
            + " for every argument, derivable answers false");
        for (int a : Check.edges()) {
            for (int b : Check.edges()) {
                Check.due("cell(" + a + ", " + b + ")", x.cell(a, b), -1);
                Check.due("step(" + a + ", " + b + ")", x.step(a, b), -1);
            }
            Check.due("known(" + a + ")", x.known(a), -1);
            Check.due("traceThread(" + a + ")", x.traceThread(a), -1);
            Check.due("value(" + a + ")", x.value(a), -1);
            Check.due("derivable(" + a + ")", x.derivable(a), false);
        }
        Check.due("secret()", x.secret(), -1);
        Check.due("traceLength()", x.traceLength(), -1);
        Check.sentence("Promise 1: status() answers NOT_SEARCHED");
        Check.due("status()", x.status(), 0);
    }

    private static void emptyObjectRefuses() {
        Check.sentence("Promise 1: an empty object has no valid id");
        for (int t : Check.edges()) {
            emptyRefuses("compose(3, " + t + ", " + t + ")", -1, x -> x.compose(3, t, t));
            emptyRefuses("learn(" + t + ")", 0, x -> Scene.number(x.learn(t)));
            emptyRefuses("addStep(0, true, " + t + ")", 0, x -> Scene.number(x.addStep(0, true, t)));
            emptyRefuses("setSecret(" + t + ")", 0, x -> Scene.number(x.setSecret(t)));
        }
    }

    private static void emptyRefuses(String what, long due, Scene.Call call) {
        Scene.refusedBy(what, IntruderSearch::new, due, call);
    }

    private static void makingAnAtom() {
        Check.sentence("Promise 2: answers -1 and changes nothing if MAX_ATOMS atoms exist");
        Scene.refused("a ninth atom", Scene.ATOMS, -1, x -> x.atom(false));
        Scene.refused("a ninth atom, compromised", Scene.ATOMS, -1, x -> x.atom(true));
        Check.sentence("Promise 2: answers -1 and changes nothing if MAX_CELLS cells exist");
        Scene.refused("an atom in a full table", Scene.CELLS, -1, x -> x.atom(false));
        Scene.refused("a compromised atom in a full table", Scene.CELLS, -1, x -> x.atom(true));
        Scene.refused("a ninth atom in a full table", Scene.ALL, -1, x -> x.atom(true));
        lastAtoms();
        Check.sentence("Promise 2: the call then resets");
        Scene.resets("atom(false)", Scene.OWN_CELLS, x -> x.atom(false));
        Scene.resets("atom(true)", Scene.OWN_CELLS, x -> x.atom(true));
        atomsAreDistinct();
        atomLeavesTheRest();
    }

    private static void lastAtoms() {
        Check.sentence("Promise 2: the id equals the number of cells before the call, the atom number that of atoms");
        IntruderSearch x = Scene.atoms(7);
        Scene.fill(x, 63);
        Check.due("the eighth atom as the 64th cell", x.atom(true), 63);
        Check.due("its kind", x.cell(63, 0), 1);
        Check.due("its number", x.cell(63, 1), 7);
        Check.sentence("Promise 2: the cell has the given compromised flag and size 1");
        Check.due("its flag", x.cell(63, 2), 1);
        Check.due("its size", x.cell(63, 3), 1);
        IntruderSearch y = new IntruderSearch();
        y.variable(0);
        Scene.fill(y, 63);
        Check.due("the first atom as the 64th cell", y.atom(false), 63);
        Check.due("its number", y.cell(63, 1), 0);
        Check.due("its flag", y.cell(63, 2), 0);
    }

    private static void atomsAreDistinct() {
        Check.sentence("Promise 2: each successful call makes a distinct new atom, even when the flag is the same");
        for (int flag = 0; flag < 2; flag++) {
            IntruderSearch x = new IntruderSearch();
            for (int i = 0; i < 8; i++) {
                Check.due("atom " + i, x.atom(flag == 1), i);
            }
            x.learn(0);
            for (int i = 0; i < 8; i++) {
                Check.due("atom " + i + " known", x.derivable(i), i == 0);
            }
        }
    }

    private static void atomLeavesTheRest() {
        Check.sentence("Promise 2: K0, the threads and the secret do not change");
        for (int status = 0; status <= 2; status++) {
            Scene.leaves("atom(true)", Scene.make(Scene.NOTHING, status), "6 to learn, 2 steps, 4 atoms",
                Scene.OWN_CELLS, x -> x.atom(true), Check::known, Check::steps, x -> "" + x.secret());
            Scene.leaves("atom(false)", Scene.make(Scene.KNOWN + Scene.STEPS, status), "0 to learn, 0 steps, 4 atoms",
                Scene.OWN_CELLS, x -> x.atom(false), Check::known, Check::steps, x -> "" + x.secret());
        }
    }

    private static void declaringAVariable() {
        Check.sentence("Promise 3, 1: v is outside 0..MAX_VARS-1 (negative or at least MAX_VARS): -1");
        int[] wrong = {Integer.MIN_VALUE, -2, -1, 3, 4, 64, Integer.MAX_VALUE};
        for (int v : wrong) {
            Scene.refused("variable(" + v + ")", Scene.NOTHING, -1, x -> x.variable(v));
            Scene.refused("variable(" + v + ") in a full table", Scene.CELLS + Scene.VARIABLES, -1, x -> x.variable(v));
            Scene.refused("variable(" + v + "), K0 full", Scene.KNOWN + Scene.STEPS, -1, x -> x.variable(v));
        }
        Check.sentence("Promise 3, 2: the VAR cell of v exists: its id, nothing changes, status and trace are kept");
        Scene.refused("variable(1) again", Scene.NOTHING, Scene.VARIABLE, x -> x.variable(1));
        Check.sentence("Promise 3, 2 before 3: the VAR cell of v exists in a full table");
        Scene.refused("variable(1) again in a full table", Scene.CELLS, Scene.VARIABLE, x -> x.variable(1));
        Scene.refused("variable(1) again, all is full", Scene.ALL, Scene.VARIABLE, x -> x.variable(1));
        Scene.refused("variable(0) again", Scene.CELLS + Scene.VARIABLES, Scene.OWN_CELLS, x -> x.variable(0));
        Scene.refused("variable(2) again", Scene.CELLS + Scene.VARIABLES, Scene.OWN_CELLS + 1, x -> x.variable(2));
        Check.sentence("Promise 3, 3: MAX_CELLS cells exist: -1");
        Scene.refused("variable(0) in a full table", Scene.CELLS, -1, x -> x.variable(0));
        Scene.refused("variable(2) in a full table", Scene.CELLS, -1, x -> x.variable(2));
        Check.sentence("Promise 3, 4: the call resets");
        Scene.resets("variable(0)", Scene.OWN_CELLS, x -> x.variable(0));
        Scene.resets("variable(2)", Scene.OWN_CELLS, x -> x.variable(2));
        lastVariables();
        variableLeavesTheRest();
    }

    private static void lastVariables() {
        Check.sentence("Promise 3, 4: the id equals the number of cells before the call and the size is 1");
        for (int v = 0; v < 3; v++) {
            IntruderSearch x = Scene.atoms(8);
            Scene.fill(x, 63);
            Check.due("variable(" + v + ") as the 64th cell", x.variable(v), 63);
            int[] due = {2, v, 0, 1};
            for (int field = 0; field < 4; field++) {
                Check.due("its field " + field, x.cell(63, field), due[field]);
            }
            Check.sentence("Promise 3, 4: from then on, v is declared");
            Check.due("variable(" + v + ") again", x.variable(v), 63);
            Check.due("another one", x.variable((v + 1) % 3), -1);
            x.learn(5);
            x.setSecret(63);
            Check.due("search", x.search(), 2);
            Check.due("value(" + v + ")", x.value(v), 5);
        }
    }

    private static void variableLeavesTheRest() {
        Check.sentence("Promise 3: K0, the threads and the secret do not change");
        for (int status = 0; status <= 2; status++) {
            Scene.leaves("variable(0)", Scene.make(Scene.NOTHING, status), "6 to learn, 2 steps, 5 atoms",
                Scene.OWN_CELLS, x -> x.variable(0), Check::known, Check::steps, x -> "" + x.secret());
            Scene.leaves("variable(2)", Scene.make(Scene.KNOWN + Scene.STEPS, status), "0 to learn, 0 steps, 5 atoms",
                Scene.OWN_CELLS, x -> x.variable(2), Check::known, Check::steps, x -> "" + x.secret());
        }
    }

    private static void composing() {
        wrongOperators();
        wrongParts();
        tooLarge();
        composedBefore();
        tableIsFull();
        newComposites();
        composingNeverResets();
    }

    private static void wrongOperators() {
        Check.sentence("Promise 4, 1: op is not one of PAIR, SENC, AENC: -1");
        int[] wrong = {Integer.MIN_VALUE, -3, -1, 0, 1, 2, 6, 7, 8, 9, 1 << 16, Integer.MAX_VALUE};
        for (int op : wrong) {
            Scene.refused("compose(" + op + ", 0, 1)", Scene.NOTHING, -1, x -> x.compose(op, 0, 1));
            Scene.refused("compose(" + op + ", 0, 1), K0 full", Scene.KNOWN + Scene.STEPS, -1,
                x -> x.compose(op, 0, 1));
            Scene.refused("compose(" + op + ", -1, 64)", Scene.CELLS + Scene.VARIABLES, -1, x -> x.compose(op, -1, 64));
        }
        Check.sentence("Promise 4, 1 before 4: op is none of the three, and a cell of kind op with a and b exists");
        Scene.refused("compose(1, 0, 0) beside atom 0", Scene.NOTHING, -1, x -> x.compose(1, 0, 0));
        Scene.refused("compose(1, 1, 1) beside atom 1", Scene.NOTHING, -1, x -> x.compose(1, 1, 1));
        Scene.refused("compose(1, 2, 0) beside atom 2", Scene.CELLS, -1, x -> x.compose(1, 2, 0));
        Scene.refused("compose(2, 1, 0) beside variable 1", Scene.NOTHING, -1, x -> x.compose(2, 1, 0));
    }

    private static void wrongParts() {
        Check.sentence("Promise 4, 2: a or b is not a valid id: -1");
        for (int op = 3; op <= 5; op++) {
            for (int t : OUTSIDE) {
                int kind = op;
                Scene.refused("a is " + t, Scene.NOTHING, -1, x -> x.compose(kind, t, 0));
                Scene.refused("b is " + t, Scene.NOTHING, -1, x -> x.compose(kind, 0, t));
                Scene.refused("b is " + t + ", K0 full", Scene.KNOWN + Scene.STEPS, -1, x -> x.compose(kind, 0, t));
                Scene.refused("both are " + t, Scene.CELLS + Scene.VARIABLES, -1, x -> x.compose(kind, t, t));
            }
        }
        int next = Scene.OWN_CELLS;
        Scene.refused("a is the next id", Scene.NOTHING, -1, x -> x.compose(3, next, 0));
        Scene.refused("b is the next id", Scene.NOTHING, -1, x -> x.compose(3, 0, next));
        Scene.refused("both are the next id", Scene.NOTHING, -1, x -> x.compose(3, next, next));
    }

    private static void tooLarge() {
        Check.sentence("Promise 4, 3: 1 + size(a) + size(b) > MAX_SIZE: -1");
        int[] small = {Scene.HIDDEN, Scene.VARIABLE, Scene.LOCKED, Scene.SIZE_15, Scene.SIZE_31};
        for (int op = 3; op <= 5; op++) {
            int kind = op;
            for (int t : small) {
                Scene.refused("31 and cell " + t, Scene.NOTHING, -1, x -> x.compose(kind, Scene.SIZE_31, t));
                Scene.refused("31 and cell " + t + ", K0 full", Scene.KNOWN + Scene.STEPS, -1,
                    x -> x.compose(kind, Scene.SIZE_31, t));
                Scene.refused("cell " + t + " and 31", Scene.CELLS + Scene.VARIABLES, -1,
                    x -> x.compose(kind, t, Scene.SIZE_31));
            }
        }
        for (int left = 1; left <= 31; left += 2) {
            IntruderSearch x = Scene.atoms(1);
            int[] ofSize = chain(x);
            int fits = 30 - left;
            if (fits >= 1) {
                int made = x.compose(4, ofSize[left], ofSize[fits]);
                Check.due("size of " + left + " and " + fits, x.cell(made, 3), 31);
            }
            Check.due(left + " and " + (fits + 2), x.compose(4, ofSize[left], ofSize[fits + 2]), -1);
        }
    }

    /** Makes a cell of each size there can be; answers the ids by size. */
    private static int[] chain(IntruderSearch x) {
        int[] ofSize = new int[32];
        for (int size = 3; size <= 31; size += 2) {
            ofSize[size] = x.compose(3, ofSize[size - 2], 0);
            Check.due("size along the chain", x.cell(ofSize[size], 3), size);
        }
        return ofSize;
    }

    private static void composedBefore() {
        Check.sentence("Promise 4, 4: a cell of kind op with first a and second b exists: its id, nothing changes");
        Scene.refused("a pair again", Scene.NOTHING, Scene.WITH_VARIABLE,
            x -> x.compose(3, Scene.SENT, Scene.VARIABLE));
        Scene.refused("a lock again", Scene.NOTHING, Scene.LOCKED, x -> x.compose(4, Scene.SENT, Scene.HIDDEN));
        Scene.refused("the largest again", Scene.NOTHING, Scene.SIZE_31,
            x -> x.compose(3, Scene.SIZE_15, Scene.SIZE_15));
        Check.sentence("Promise 4, 4 before 5: the cell exists in a full table");
        Scene.refused("a pair again in a full table", Scene.CELLS + Scene.VARIABLES, Scene.WITH_VARIABLE,
            x -> x.compose(3, Scene.SENT, Scene.VARIABLE));
        Scene.refused("the largest again, all is full", Scene.ALL, Scene.SIZE_31,
            x -> x.compose(3, Scene.SIZE_15, Scene.SIZE_15));
        Scene.refused("the last cell again", Scene.CELLS, 63,
            x -> x.compose(x.cell(63, 0), x.cell(63, 1), x.cell(63, 2)));
        Check.sentence("Promise 4, 4: only equal kind, first and second count");
        IntruderSearch x = Scene.atoms(2);
        Check.due("a pair", x.compose(3, 0, 1), 2);
        Check.due("turned round", x.compose(3, 1, 0), 3);
        Check.due("of another kind", x.compose(4, 0, 1), 4);
        Check.due("of the third kind", x.compose(5, 0, 1), 5);
        Check.due("with another second", x.compose(3, 0, 0), 6);
        Check.due("with another first", x.compose(3, 1, 1), 7);
    }

    private static void tableIsFull() {
        Check.sentence("Promise 4, 5: MAX_CELLS cells exist: -1");
        for (int op = 3; op <= 5; op++) {
            int kind = op;
            Scene.refused("a new term in a full table", Scene.CELLS, -1, x -> x.compose(kind, 63, Scene.SENT));
            Scene.refused("a new term, all is full", Scene.ALL, -1, x -> x.compose(kind, 63, 63));
        }
    }

    private static void newComposites() {
        Check.sentence("Promise 4, 6: the id equals the number of cells before, the size is 1 + size(a) + size(b)");
        for (int op = 3; op <= 5; op++) {
            IntruderSearch x = Scene.make(Scene.NOTHING, 2);
            Scene.fill(x, 63);
            Check.due("the 64th cell", x.compose(op, 62, Scene.SIZE_15), 63);
            int[] due = {op, 62, Scene.SIZE_15, 1 + x.cell(62, 3) + 15};
            for (int field = 0; field < 4; field++) {
                Check.due("its field " + field, x.cell(63, field), due[field]);
            }
        }
        Check.sentence("Promise 4, 6: the parts may be of any kind, including VAR, and may be equal");
        for (int op = 3; op <= 5; op++) {
            IntruderSearch x = Scene.atoms(1);
            x.variable(0);
            for (int kind = 3; kind <= 5; kind++) {
                x.compose(kind, 1, 0);
            }
            int next = 5;
            for (int a = 0; a < 5; a++) {
                for (int b = 1; b < 5; b++) {
                    Check.due("compose(" + op + ", " + a + ", " + b + ")", x.compose(op, a, b), next);
                    next++;
                }
            }
        }
    }

    private static void composingNeverResets() {
        Check.sentence("Promise 4: compose never resets; status, trace, K0, threads and secret stay as they were");
        for (int status = 0; status <= 2; status++) {
            for (int op = 3; op <= 5; op++) {
                int kind = op;
                Scene.leaves("a new term", Scene.make(Scene.NOTHING, status), "6 to learn, 2 steps, 5 atoms",
                    Scene.OWN_CELLS, x -> x.compose(kind, 1, 1),
                    Check::outcome, Check::known, Check::steps, x -> "" + x.secret());
                Scene.leaves("a new term with a variable", Scene.make(Scene.STEPS, status),
                    "6 to learn, 0 steps, 5 atoms", Scene.OWN_CELLS, x -> x.compose(kind, 2, 2),
                    Check::outcome, Check::known, Check::steps, x -> "" + x.secret());
            }
        }
    }

    private static void readingACell() {
        wrongReads();
        String[] sentences = {"FIELD_KIND: the kind constant of t",
            "FIELD_FIRST: for an ATOM, its atom number; for a VAR, its v; for the other kinds, the first part's id",
            "FIELD_SECOND: for an ATOM, 1 if compromised, else 0; for a VAR, 0; for the other kinds, the second's id",
            "FIELD_SIZE: its size"};
        IntruderSearch x = new IntruderSearch();
        x.variable(2);
        x.atom(true);
        x.variable(0);
        x.atom(false);
        x.compose(5, 0, 3);
        x.compose(3, 4, 2);
        x.compose(4, 5, 1);
        x.compose(5, 6, 5);
        int[][] due = {{2, 2, 0, 1}, {1, 0, 1, 1}, {2, 0, 0, 1}, {1, 1, 0, 1}, {5, 0, 3, 3}, {3, 4, 2, 5},
            {4, 5, 1, 7}, {5, 6, 5, 13}};
        for (int field = 0; field < 4; field++) {
            Check.sentence("Promise 5: " + sentences[field]);
            for (int t = 0; t < due.length; t++) {
                Check.due("cell(" + t + ", " + field + ")", x.cell(t, field), due[t][field]);
            }
        }
    }

    /** A cell that was refused must not count as an atom: with no atom there is no assignment. */
    private static void fullTableWithoutAtom() {
        Check.sentence("Promises 2, 3 and 4: MAX_CELLS cells exist, and none of them is an atom");
        Scene.refusedBy("atom(true)", BoundaryCellsTest::noAtom, -1, x -> x.atom(true));
        Scene.refusedBy("atom(false)", BoundaryCellsTest::noAtom, -1, x -> x.atom(false));
        Scene.refusedBy("variable(1)", BoundaryCellsTest::noAtom, -1, x -> x.variable(1));
        Scene.refusedBy("compose(3, 63, 0)", BoundaryCellsTest::noAtom, -1, x -> x.compose(3, 63, 0));
    }

    private static IntruderSearch noAtom() {
        IntruderSearch x = new IntruderSearch();
        x.variable(0);
        Scene.fill(x, 64);
        x.addStep(0, true, 0);
        x.setSecret(0);
        Check.due("search without an atom", x.search(), 1);
        return x;
    }

    private static void wrongReads() {
        int[] fields = {Integer.MIN_VALUE, -4, -1, 4, 5, 64, Integer.MAX_VALUE};
        int[] scenes = {Scene.NOTHING, Scene.CELLS};
        for (int full : scenes) {
            int count = full == Scene.CELLS ? 64 : Scene.OWN_CELLS;
            Check.sentence("Promise 5: answers -1 if t is not a valid id; it changes nothing");
            for (int field = 0; field < 4; field++) {
                int asked = field;
                for (int t : OUTSIDE) {
                    Scene.refused("cell(" + t + ", " + field + ")", full, -1, x -> x.cell(t, asked));
                }
                Scene.refused("cell(" + count + ", " + field + ")", full, -1, x -> x.cell(count, asked));
            }
            Check.sentence("Promise 5: answers -1 if field is outside 0..3; it changes nothing");
            for (int field : fields) {
                Scene.refused("cell(0, " + field + ")", full, -1, x -> x.cell(0, field));
                Scene.refused("cell of the last, " + field, full, -1, x -> x.cell(count - 1, field));
                Scene.refused("cell(-1, " + field + ")", full, -1, x -> x.cell(-1, field));
            }
        }
        Check.sentence("Promise 5: it changes nothing");
        for (int field = 0; field < 4; field++) {
            int asked = field;
            int[] due = {4, Scene.SENT, Scene.HIDDEN, 3};
            Scene.refused("reading field " + field, Scene.NOTHING, due[field], x -> x.cell(Scene.LOCKED, asked));
        }
    }
}
