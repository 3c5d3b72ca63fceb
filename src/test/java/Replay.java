import java.util.HashSet;
import java.util.Set;

/** Replays the trace of an attack, read through the getters alone; shared by the tests, not a test itself. */
final class Replay {
    private final IntruderSearch x;
    private final Set<Model.Tree> known = new HashSet<>();
    private final int[] done = new int[3];

    private Replay(IntruderSearch x) {
        this.x = x;
    }

    /** Whether the trace that is held meets each of the four points of promise 12. */
    static boolean holds(IntruderSearch x) {
        return new Replay(x).run();
    }

    private boolean run() {
        for (int i = 0; i < 8 && x.known(i) != -1; i++) {
            known.add(tree(x.known(i)));
        }
        boolean right = x.status() == 2 && x.traceLength() >= 0;
        for (int i = 0; right && i < x.traceLength(); i++) {
            right = takeStep(x.traceThread(i));
        }
        return right && derives(tree(x.secret()));
    }

    private boolean takeStep(int thread) {
        if (thread < 0 || thread > 2) {
            return false;
        }
        int step = x.step(thread, done[thread]);
        if (step == -1) {
            return false;
        }
        done[thread]++;
        Model.Tree message = tree(step / 2);
        boolean send = step % 2 == 1;
        if (send) {
            known.add(message);
        }
        return send || derives(message);
    }

    private boolean derives(Model.Tree goal) {
        return Model.builds(Model.open(known), goal);
    }

    /** The tree of a cell under the trace's assignment. */
    private Model.Tree tree(int t) {
        int kind = x.cell(t, 0);
        if (kind == 2) {
            return tree(x.value(x.cell(t, 1)));
        }
        if (kind == 1) {
            return new Model.Tree(1, x.cell(t, 1), x.cell(t, 2), null, null);
        }
        return new Model.Tree(kind, 0, 0, tree(x.cell(t, 1)), tree(x.cell(t, 2)));
    }
}
