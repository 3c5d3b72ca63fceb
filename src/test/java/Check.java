/** Counts the answers that are not as due; shared by the tests, not a test itself. */
final class Check {
    private static final int[] EDGES = {
        Integer.MIN_VALUE, Integer.MIN_VALUE + 1, -65, -64, -3, -2, -1, 0, 1, 2, 3, 4, 5, 6, 7, 8, 9,
        31, 32, 33, 63, 64, 65, 127, 128, 1 << 16, Integer.MAX_VALUE - 1, Integer.MAX_VALUE
    };

    private static int wrong = 0;

    private Check() {
    }

    static void due(String what, long got, long want) {
        if (got != want) {
            wrong++;
            System.out.println(what + " answered " + got + ", due is " + want);
        }
    }

    static void due(String what, boolean got, boolean want) {
        due(what, got ? 1L : 0L, want ? 1L : 0L);
    }

    static void same(String what, String got, String want) {
        if (!got.equals(want)) {
            wrong++;
            System.out.println(what + "\n  got " + got + "\n  due " + want);
        }
    }

    static int[] edges() {
        return EDGES.clone();
    }

    /** All that the getters tell, so that a test can see that a call changed nothing. */
    static String seen(IntruderSearch x) {
        StringBuilder text = new StringBuilder();
        text.append("cells");
        for (int t = 0; t < IntruderSearch.MAX_CELLS; t++) {
            for (int field = 0; field < 4; field++) {
                text.append(' ').append(x.cell(t, field));
            }
        }
        text.append(" known");
        for (int i = 0; i < IntruderSearch.MAX_KNOWN; i++) {
            text.append(' ').append(x.known(i));
        }
        text.append(" derivable");
        for (int t = 0; t < IntruderSearch.MAX_CELLS; t++) {
            text.append(' ').append(x.derivable(t) ? 1 : 0);
        }
        text.append(" steps");
        for (int thread = 0; thread < IntruderSearch.THREADS; thread++) {
            for (int index = 0; index < IntruderSearch.MAX_STEPS; index++) {
                text.append(' ').append(x.step(thread, index));
            }
        }
        text.append(" secret ").append(x.secret());
        return text.append(' ').append(outcome(x)).toString();
    }

    /** The part of what is seen that a reset takes away. */
    static String outcome(IntruderSearch x) {
        StringBuilder text = new StringBuilder();
        text.append("status ").append(x.status()).append(" length ").append(x.traceLength()).append(" threads");
        for (int i = -1; i <= IntruderSearch.MAX_STEPS; i++) {
            text.append(' ').append(x.traceThread(i));
        }
        text.append(" values");
        for (int v = -1; v <= IntruderSearch.MAX_VARS; v++) {
            text.append(' ').append(x.value(v));
        }
        return text.toString();
    }

    static void end() {
        System.out.println(wrong == 0 ? "all answers are as due" : wrong + " answers are not as due");
        if (wrong != 0) {
            System.exit(1);
        }
    }
}
