/** Promises 1 to 5: the empty start, atoms, variables, composing and reading cells. */
public final class CellsTest {
    private static final int PAIR = IntruderSearch.PAIR;
    private static final int SENC = IntruderSearch.SENC;
    private static final int AENC = IntruderSearch.AENC;

    public static void main(String[] args) {
        emptyStart();
        emptyStartRefusesEveryTerm();
        objectsAreApart();
        atoms();
        atomsStopAtEight();
        atomsStopAtFullTable();
        atomResets();
        variables();
        variablesStopAtFullTable();
        variableResetsOnlyWhenNew();
        composing();
        composingRefusals();
        composingSizeLimit();
        composingOrderOfConditions();
        composingKeepsStatus();
        readingCells();
        Check.end();
    }

    private static void emptyStart() {
        IntruderSearch x = new IntruderSearch();
        for (int a : Check.edges()) {
            Check.due("empty known", x.known(a), -1);
            Check.due("empty traceThread", x.traceThread(a), -1);
            Check.due("empty value", x.value(a), -1);
            Check.due("empty derivable", x.derivable(a), false);
            for (int b : Check.edges()) {
                Check.due("empty cell", x.cell(a, b), -1);
                Check.due("empty step", x.step(a, b), -1);
            }
        }
        Check.due("empty secret", x.secret(), -1);
        Check.due("empty traceLength", x.traceLength(), -1);
        Check.due("empty status", x.status(), IntruderSearch.NOT_SEARCHED);
        Check.due("empty search", x.search(), IntruderSearch.NO_SECRET);
        Check.due("status after NO_SECRET", x.status(), IntruderSearch.NOT_SEARCHED);
        Check.due("length after NO_SECRET", x.traceLength(), -1);
    }

    private static void emptyStartRefusesEveryTerm() {
        IntruderSearch x = new IntruderSearch();
        for (int t : Check.edges()) {
            Check.due("empty learn", x.learn(t), false);
            Check.due("empty setSecret", x.setSecret(t), false);
            Check.due("empty addStep", x.addStep(0, true, t), false);
            Check.due("empty compose", x.compose(PAIR, t, t), -1);
        }
        Check.same("refused on empty", Check.seen(x), Check.seen(new IntruderSearch()));
    }

    private static void objectsAreApart() {
        IntruderSearch x = new IntruderSearch();
        x.atom(true);
        x.variable(0);
        x.learn(0);
        x.addStep(2, false, 1);
        x.setSecret(0);
        x.search();
        IntruderSearch y = new IntruderSearch();
        Check.due("second object's cell", y.cell(0, 0), -1);
        Check.due("second object's known", y.known(0), -1);
        Check.due("second object's step", y.step(2, 0), -1);
        Check.due("second object's secret", y.secret(), -1);
        Check.due("second object's status", y.status(), 0);
        Check.due("second object's variable", y.variable(0), 0);
        Check.due("first object's status", x.status(), IntruderSearch.ATTACK);
    }

    private static void atoms() {
        IntruderSearch x = new IntruderSearch();
        Check.due("first atom", x.atom(true), 0);
        Check.due("second atom", x.atom(true), 1);
        Check.due("variable between", x.variable(1), 2);
        Check.due("pair between", x.compose(PAIR, 0, 2), 3);
        Check.due("third atom", x.atom(false), 4);
        Check.due("third atom's kind", x.cell(4, IntruderSearch.FIELD_KIND), IntruderSearch.ATOM);
        Check.due("third atom's number", x.cell(4, IntruderSearch.FIELD_FIRST), 2);
        Check.due("third atom's flag", x.cell(4, IntruderSearch.FIELD_SECOND), 0);
        Check.due("third atom's size", x.cell(4, IntruderSearch.FIELD_SIZE), 1);
        Check.due("second atom's number", x.cell(1, IntruderSearch.FIELD_FIRST), 1);
        Check.due("second atom's flag", x.cell(1, IntruderSearch.FIELD_SECOND), 1);
    }

    private static void atomsStopAtEight() {
        IntruderSearch x = new IntruderSearch();
        for (int i = 0; i < IntruderSearch.MAX_ATOMS; i++) {
            Check.due("atom " + i, x.atom(i % 2 == 0), i);
        }
        x.learn(0);
        x.setSecret(0);
        x.search();
        String before = Check.seen(x);
        Check.due("ninth atom", x.atom(false), -1);
        Check.due("ninth atom, compromised", x.atom(true), -1);
        Check.same("ninth atom changed", Check.seen(x), before);
        Check.due("variable after ninth atom", x.variable(2), 8);
    }

    private static void atomsStopAtFullTable() {
        IntruderSearch x = fullTable(3);
        x.learn(0);
        x.setSecret(0);
        x.search();
        String before = Check.seen(x);
        Check.due("atom in full table", x.atom(true), -1);
        Check.same("atom in full table changed", Check.seen(x), before);
    }

    private static void atomResets() {
        IntruderSearch x = attacked();
        x.addStep(1, true, 0);
        x.search();
        x.atom(false);
        Check.due("status after atom", x.status(), IntruderSearch.NOT_SEARCHED);
        Check.due("length after atom", x.traceLength(), -1);
        Check.due("known after atom", x.known(0), 0);
        Check.due("step after atom", x.step(1, 0), 1);
        Check.due("secret after atom", x.secret(), 0);
    }

    private static void variables() {
        IntruderSearch x = new IntruderSearch();
        Check.due("variable(2)", x.variable(2), 0);
        x.atom(false);
        Check.due("variable(0)", x.variable(0), 2);
        Check.due("variable(2) again", x.variable(2), 0);
        Check.due("variable(0) again", x.variable(0), 2);
        for (int v : Check.edges()) {
            if (v < 0 || v >= IntruderSearch.MAX_VARS) {
                Check.due("variable(" + v + ")", x.variable(v), -1);
            }
        }
        Check.due("nothing made by refused ones", x.cell(3, 0), -1);
        Check.due("variable(1)", x.variable(1), 3);
        int[] fields = {IntruderSearch.VAR, 1, 0, 1};
        for (int field = 0; field < 4; field++) {
            Check.due("field " + field + " of variable 1", x.cell(3, field), fields[field]);
        }
        Check.due("first of variable 2", x.cell(0, IntruderSearch.FIELD_FIRST), 2);
    }

    private static void variablesStopAtFullTable() {
        IntruderSearch x = new IntruderSearch();
        x.variable(1);
        x.atom(false);
        fill(x, 1);
        x.learn(1);
        x.setSecret(1);
        x.search();
        String before = Check.seen(x);
        Check.due("declared variable in full table", x.variable(1), 0);
        Check.due("new variable in full table", x.variable(0), -1);
        Check.due("wrong variable in full table", x.variable(3), -1);
        Check.same("variables in full table changed", Check.seen(x), before);
    }

    private static void variableResetsOnlyWhenNew() {
        IntruderSearch x = attacked();
        x.variable(0);
        Check.due("status after new variable", x.status(), IntruderSearch.NOT_SEARCHED);
        Check.due("known after new variable", x.known(0), 0);
        Check.due("secret after new variable", x.secret(), 0);
        x.search();
        String before = Check.seen(x);
        x.variable(0);
        x.variable(3);
        x.variable(-1);
        Check.same("old or wrong variable changed", Check.seen(x), before);
        Check.due("status is kept", x.status(), IntruderSearch.ATTACK);
    }

    private static void composing() {
        IntruderSearch x = new IntruderSearch();
        x.atom(false);
        x.variable(0);
        Check.due("pair of equal parts", x.compose(PAIR, 0, 0), 2);
        Check.due("pair", x.compose(PAIR, 0, 1), 3);
        Check.due("pair turned round", x.compose(PAIR, 1, 0), 4);
        Check.due("senc of the same parts", x.compose(SENC, 0, 1), 5);
        Check.due("aenc of the same parts", x.compose(AENC, 0, 1), 6);
        Check.due("composite key", x.compose(AENC, 5, 3), 7);
        Check.due("variable's pair", x.compose(PAIR, 1, 1), 8);
        int[][] rows = {{PAIR, 0, 0, 3}, {PAIR, 0, 1, 3}, {PAIR, 1, 0, 3}, {SENC, 0, 1, 3},
            {AENC, 0, 1, 3}, {AENC, 5, 3, 7}, {PAIR, 1, 1, 3}};
        for (int i = 0; i < rows.length; i++) {
            Check.due("composed again", x.compose(rows[i][0], rows[i][1], rows[i][2]), i + 2);
            for (int field = 0; field < 4; field++) {
                Check.due("field " + field + " of " + (i + 2), x.cell(i + 2, field), rows[i][field]);
            }
        }
        Check.due("nothing made again", x.cell(9, 0), -1);
    }

    private static void composingRefusals() {
        IntruderSearch x = new IntruderSearch();
        x.atom(false);
        x.atom(true);
        String before = Check.seen(x);
        for (int edge : Check.edges()) {
            if (edge < PAIR || edge > AENC) {
                Check.due("compose with op " + edge, x.compose(edge, 0, 1), -1);
            }
            if (edge < 0 || edge > 1) {
                Check.due("compose of " + edge + " and 0", x.compose(SENC, edge, 0), -1);
                Check.due("compose of 0 and " + edge, x.compose(SENC, 0, edge), -1);
            }
        }
        Check.same("refused compose changed", Check.seen(x), before);
    }

    private static void composingSizeLimit() {
        IntruderSearch x = new IntruderSearch();
        x.atom(false);
        int big = 0;
        for (int i = 0; i < 15; i++) {
            big = x.compose(PAIR, big, 0);
        }
        Check.due("size after 15 pairs", x.cell(big, IntruderSearch.FIELD_SIZE), 31);
        Check.due("size 33", x.compose(PAIR, big, 0), -1);
        int seven = x.compose(PAIR, x.compose(PAIR, x.compose(PAIR, 0, 0), 0), 0);
        Check.due("size 39", x.compose(SENC, seven, big), -1);
        Check.due("size 63", x.compose(AENC, big, big), -1);
        // Every size is odd, so 31 is the greatest one that can be and 33 the least that cannot.
        int fifteen = x.compose(SENC, seven, seven);
        int top = x.compose(AENC, fifteen, fifteen);
        Check.due("size of the other 31", x.cell(top, IntruderSearch.FIELD_SIZE), 31);
    }

    private static void composingOrderOfConditions() {
        IntruderSearch x = fullTable(1);
        Check.due("old one in full table", x.compose(PAIR, 0, 0), 1);
        Check.due("new one in full table", x.compose(PAIR, 63, 0), -1);
        Check.due("no cell made", x.cell(64, 0), -1);
    }

    private static void composingKeepsStatus() {
        IntruderSearch x = attacked();
        String before = Check.outcome(x);
        x.compose(PAIR, 0, 0);
        x.compose(PAIR, 0, 0);
        x.compose(PAIR, 0, 9);
        x.compose(9, 0, 0);
        Check.same("compose and an attack", Check.outcome(x), before);
        Check.due("known after compose", x.known(0), 0);
        Check.due("secret after compose", x.secret(), 0);

        IntruderSearch y = new IntruderSearch();
        y.atom(false);
        y.setSecret(0);
        Check.due("nothing known", y.search(), IntruderSearch.SAFE);
        y.compose(SENC, 0, 0);
        Check.due("compose and SAFE", y.status(), IntruderSearch.SAFE);
    }

    private static void readingCells() {
        IntruderSearch x = new IntruderSearch();
        x.atom(true);
        x.variable(2);
        x.compose(AENC, 1, 0);
        String before = Check.seen(x);
        int[][] cells = {{1, 0, 1, 1}, {2, 2, 0, 1}, {5, 1, 0, 3}};
        for (int t : Check.edges()) {
            for (int field : Check.edges()) {
                boolean there = t >= 0 && t < 3 && field >= 0 && field < 4;
                Check.due("cell(" + t + ", " + field + ")", x.cell(t, field), there ? cells[t][field] : -1);
            }
        }
        Check.same("reading changed", Check.seen(x), before);
    }

    private static IntruderSearch attacked() {
        IntruderSearch x = new IntruderSearch();
        x.atom(false);
        x.learn(0);
        x.setSecret(0);
        Check.due("search of a known secret", x.search(), IntruderSearch.ATTACK);
        return x;
    }

    private static IntruderSearch fullTable(int atoms) {
        IntruderSearch x = new IntruderSearch();
        for (int i = 0; i < atoms; i++) {
            x.atom(false);
        }
        fill(x, 0);
        return x;
    }

    /** Composes small terms until the table is full; the part named first lies in all of them. */
    private static void fill(IntruderSearch x, int part) {
        int made = 0;
        while (x.cell(made, 0) != -1) {
            made++;
        }
        int from = part;
        while (made < IntruderSearch.MAX_CELLS) {
            for (int op = PAIR; op <= AENC && made < IntruderSearch.MAX_CELLS; op++) {
                Check.due("filling", x.compose(op, from, part), made);
                made++;
            }
            from = from == part ? made - 3 : from + 1;
        }
        Check.due("table is full", x.compose(PAIR, 63, part), -1);
    }
}
