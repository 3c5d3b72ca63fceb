/** Counts the answers that are not as due; shared by the tests, not a test itself. */
final class Check {
    private static final int[] EDGES = {
        Integer.MIN_VALUE, Integer.MIN_VALUE + 1, -65, -64, -3, -2, -1, 0, 1, 2, 3, 4, 5, 6, 7, 8, 9,
        31, 32, 33, 63, 64, 65, 127, 128, 256, 257, 258, 1 << 16, (1 << 16) + 1, (1 << 16) + 2, (1 << 24) + 1,
        Integer.MAX_VALUE - 1, Integer.MAX_VALUE
    };

    private static int wrong = 0;
    private static String sentence = "";

    static {
        // No call may throw; one that does is told with the sentence that it was made for.
        Thread.setDefaultUncaughtExceptionHandler((thread, fault) -> {
            System.out.println(sentence + "a call threw " + fault);
            fault.printStackTrace();
            System.exit(1);
        });
    }

    private Check() {
    }

    /** Names the sentence of the document that the checks from here on are about. */
    static void sentence(String text) {
        sentence = text + "\n  ";
    }

    static void due(String what, long got, long want) {
        if (got != want) {
            wrong++;
            System.out.println(sentence + what + " answered " + got + ", due is " + want);
        }
    }

    static void due(String what, boolean got, boolean want) {
        due(what, got ? 1L : 0L, want ? 1L : 0L);
    }

    static void same(String what, String got, String want) {
        if (!got.equals(want)) {
            wrong++;
            System.out.println(sentence + what + "\n  got " + got + "\n  due " + want);
        }
    }

    static int[] edges() {
        return EDGES.clone();
    }

    /**
     * All that the getters tell, so that a test can see that a call changed nothing. The wrong arguments
     * come last: if one of them changed anything, it would show the next time.
     */
    static String seen(IntruderSearch x) {
        StringBuilder text = new StringBuilder();
        text.append(cells(x)).append(known(x)).append(" derivable");
        for (int t = 0; t < 64; t++) {
            text.append(' ').append(x.derivable(t) ? 1 : 0);
        }
        text.append(steps(x)).append(" secret ").append(x.secret());
        return text.append(' ').append(outcome(x)).append(outside(x)).toString();
    }

    static String cells(IntruderSearch x) {
        StringBuilder text = new StringBuilder("cells");
        for (int t = 0; t < 64; t++) {
            for (int field = 0; field < 4; field++) {
                text.append(' ').append(x.cell(t, field));
            }
        }
        return text.toString();
    }

    static String known(IntruderSearch x) {
        StringBuilder text = new StringBuilder(" known");
        for (int i = 0; i < 8; i++) {
            text.append(' ').append(x.known(i));
        }
        return text.toString();
    }

    static String steps(IntruderSearch x) {
        StringBuilder text = new StringBuilder(" steps");
        for (int thread = 0; thread < 3; thread++) {
            for (int index = 0; index < 6; index++) {
                text.append(' ').append(x.step(thread, index));
            }
        }
        return text.toString();
    }

    /** What the getters answer next to the arguments that may have an answer. */
    private static String outside(IntruderSearch x) {
        StringBuilder text = new StringBuilder(" outside");
        for (int t = -1; t <= 64; t++) {
            text.append(' ').append(x.cell(t, -1)).append(' ').append(x.cell(t, 4));
        }
        for (int i = -1; i <= 6; i++) {
            text.append(' ').append(x.step(-1, i)).append(' ').append(x.step(3, i));
            text.append(' ').append(x.step(i, -1)).append(' ').append(x.step(i, 6));
        }
        text.append(' ').append(x.cell(-1, 0)).append(' ').append(x.cell(64, 0));
        text.append(' ').append(x.known(-1)).append(' ').append(x.known(8));
        return text.append(' ').append(x.derivable(-1)).append(' ').append(x.derivable(64)).toString();
    }

    /** The part of what is seen that a reset takes away. */
    static String outcome(IntruderSearch x) {
        StringBuilder text = new StringBuilder();
        text.append("status ").append(x.status()).append(" length ").append(x.traceLength()).append(" threads");
        for (int i = -1; i <= 6; i++) {
            text.append(' ').append(x.traceThread(i));
        }
        text.append(" values");
        for (int v = -1; v <= 3; v++) {
            text.append(' ').append(x.value(v));
        }
        return text.toString();
    }

    /**
     * Searches and compares the length, the threads and the values of the trace, '-' standing for -1, or
     * SAFE; an attack must replay.
     */
    static void searched(String what, IntruderSearch x, String want) {
        int answer = x.search();
        due(what + ": status beside search", x.status(), answer);
        if (answer != 2) {
            same(what, answer == 1 ? "SAFE" : "answer " + answer, want);
            same(what + ": no trace", outcome(x), "status " + answer + " " + Scene.NO_OUTCOME);
            return;
        }
        same(what + ": replay", Replay.broken(x), "");
        StringBuilder got = new StringBuilder();
        got.append(x.traceLength());
        for (int i = 0; i < x.traceLength(); i++) {
            got.append(' ').append(x.traceThread(i));
        }
        got.append(" |");
        for (int v = 0; v < 3; v++) {
            got.append(' ').append(x.value(v) == -1 ? "-" : "" + x.value(v));
        }
        same(what, got.toString(), want);
    }

    static void end() {
        System.out.println(wrong == 0 ? "all answers are as due" : wrong + " answers are not as due");
        if (wrong != 0) {
            System.exit(1);
        }
    }
}
