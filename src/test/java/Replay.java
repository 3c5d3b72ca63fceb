import java.util.HashSet;
import java.util.Set;

/** Replays the trace of an attack, read through the getters alone; shared by the tests, not a test itself. */
final class Replay {
    private static final String NOTHING = "";

    private final IntruderSearch x;
    private final Set<Model.Tree> known = new HashSet<>();
    private final int[] done = new int[3];

    private Replay(IntruderSearch x) {
        this.x = x;
    }

    /** The first point of promise 12 that the trace does not meet, in the document's words; nothing if it meets all. */
    static String broken(IntruderSearch x) {
        return new Replay(x).run();
    }

    private String run() {
        if (x.status() != 2 || x.traceLength() < 0) {
            return "Promise 12: the least attack becomes the trace";
        }
        for (int t = 0; t < 64; t++) {
            if (x.cell(t, 0) == 2 && x.cell(x.value(x.cell(t, 1)), 0) != 1) {
                return "Promise 12: s(v) is the atom whose cell id is value(v) for each declared v";
            }
        }
        for (int i = 0; i < 8 && x.known(i) != -1; i++) {
            known.add(tree(x.known(i)));
        }
        String broken = NOTHING;
        for (int i = 0; broken.equals(NOTHING) && i < x.traceLength(); i++) {
            broken = takeStep(x.traceThread(i));
        }
        if (!broken.equals(NOTHING) || derives(tree(x.secret()))) {
            return broken;
        }
        return "Promise 12: s(secret()) lies in DY of K0 together with s(u) for all SEND u at positions 1..L";
    }

    private String takeStep(int thread) {
        if (thread < 0 || thread > 2) {
            return "Promise 12: every q_i is in 0..2";
        }
        int step = x.step(thread, done[thread]);
        if (step == -1) {
            return "Promise 12: each thread j occurs among q_1..q_L at most n_j times";
        }
        done[thread]++;
        Model.Tree message = tree(step / 2);
        if (step % 2 == 1) {
            known.add(message);
            return NOTHING;
        }
        return derives(message) ? NOTHING
            : "Promise 12: every received message s(t) lies in DY of K0 together with s(u) for every earlier SEND u";
    }

    private boolean derives(Model.Tree goal) {
        return Model.builds(Model.open(known), goal);
    }

    /** The tree of a cell under the trace's assignment. */
    private Model.Tree tree(int t) {
        int kind = x.cell(t, 0);
        if (kind == 2) {
            return tree(x.value(x.cell(t, 1)));
        }
        if (kind < 3) {
            return new Model.Tree(kind, x.cell(t, 1), x.cell(t, 2), null, null);
        }
        return new Model.Tree(kind, 0, 0, tree(x.cell(t, 1)), tree(x.cell(t, 2)));
    }
}
