/** Promises 1 to 5 with ordinary inputs: atoms, variables, composing and reading cells. */
public final class CellsTest {
    private static final int PAIR = IntruderSearch.PAIR;
    private static final int SENC = IntruderSearch.SENC;
    private static final int AENC = IntruderSearch.AENC;

    public static void main(String[] args) {
        objectsAreApart();
        atoms();
        variables();
        composing();
        Check.end();
    }

    private static void objectsAreApart() {
        IntruderSearch x = new IntruderSearch();
        x.atom(true);
        x.variable(0);
        x.learn(0);
        x.addStep(2, false, 1);
        x.setSecret(0);
        x.search();
        IntruderSearch y = new IntruderSearch();
        Check.due("second object's cell", y.cell(0, 0), -1);
        Check.due("second object's known", y.known(0), -1);
        Check.due("second object's step", y.step(2, 0), -1);
        Check.due("second object's secret", y.secret(), -1);
        Check.due("second object's status", y.status(), 0);
        Check.due("second object's variable", y.variable(0), 0);
        Check.due("first object's status", x.status(), IntruderSearch.ATTACK);
    }

    private static void atoms() {
        IntruderSearch x = new IntruderSearch();
        Check.due("first atom", x.atom(true), 0);
        Check.due("second atom", x.atom(true), 1);
        Check.due("variable between", x.variable(1), 2);
        Check.due("pair between", x.compose(PAIR, 0, 2), 3);
        Check.due("third atom", x.atom(false), 4);
        Check.due("third atom's kind", x.cell(4, IntruderSearch.FIELD_KIND), IntruderSearch.ATOM);
        Check.due("third atom's number", x.cell(4, IntruderSearch.FIELD_FIRST), 2);
        Check.due("third atom's flag", x.cell(4, IntruderSearch.FIELD_SECOND), 0);
        Check.due("third atom's size", x.cell(4, IntruderSearch.FIELD_SIZE), 1);
        Check.due("second atom's number", x.cell(1, IntruderSearch.FIELD_FIRST), 1);
        Check.due("second atom's flag", x.cell(1, IntruderSearch.FIELD_SECOND), 1);
    }

    private static void variables() {
        IntruderSearch x = new IntruderSearch();
        Check.due("variable(2)", x.variable(2), 0);
        x.atom(false);
        Check.due("variable(0)", x.variable(0), 2);
        Check.due("variable(2) again", x.variable(2), 0);
        Check.due("variable(0) again", x.variable(0), 2);
        Check.due("variable(1)", x.variable(1), 3);
        int[] fields = {IntruderSearch.VAR, 1, 0, 1};
        for (int field = 0; field < 4; field++) {
            Check.due("field " + field + " of variable 1", x.cell(3, field), fields[field]);
        }
        Check.due("first of variable 2", x.cell(0, IntruderSearch.FIELD_FIRST), 2);
    }

    private static void composing() {
        IntruderSearch x = new IntruderSearch();
        x.atom(false);
        x.variable(0);
        Check.due("pair of equal parts", x.compose(PAIR, 0, 0), 2);
        Check.due("pair", x.compose(PAIR, 0, 1), 3);
        Check.due("pair turned round", x.compose(PAIR, 1, 0), 4);
        Check.due("senc of the same parts", x.compose(SENC, 0, 1), 5);
        Check.due("aenc of the same parts", x.compose(AENC, 0, 1), 6);
        Check.due("composite key", x.compose(AENC, 5, 3), 7);
        Check.due("variable's pair", x.compose(PAIR, 1, 1), 8);
        int[][] rows = {{PAIR, 0, 0, 3}, {PAIR, 0, 1, 3}, {PAIR, 1, 0, 3}, {SENC, 0, 1, 3},
            {AENC, 0, 1, 3}, {AENC, 5, 3, 7}, {PAIR, 1, 1, 3}};
        for (int i = 0; i < rows.length; i++) {
            Check.due("composed again", x.compose(rows[i][0], rows[i][1], rows[i][2]), i + 2);
            for (int field = 0; field < 4; field++) {
                Check.due("field " + field + " of " + (i + 2), x.cell(i + 2, field), rows[i][field]);
            }
        }
        Check.due("nothing made again", x.cell(9, 0), -1);
    }
}
