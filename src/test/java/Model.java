import java.util.ArrayList;
import java.util.Arrays;
import java.util.HashMap;
import java.util.HashSet;
import java.util.List;
import java.util.Map;
import java.util.Set;

/**
 * The document's words taken literally, as slow as they come, to hold the program against: trees are
 * trees, and the search goes through all schedules and all assignments in the order of attacks.
 */
final class Model {
    /** A tree: an atom has its number and flag in first and second and no parts, a variable has v in first. */
    record Tree(int kind, int first, int second, Tree left, Tree right) {
        boolean ground() {
            return kind == 1 || kind != 2 && left.ground() && right.ground();
        }

        int size() {
            return kind <= 2 ? 1 : 1 + left.size() + right.size();
        }

        Tree under(Tree[] values) {
            if (kind <= 2) {
                return kind == 1 ? this : values[first];
            }
            return new Tree(kind, 0, 0, left.under(values), right.under(values));
        }
    }

    record Step(boolean send, int term) {
    }

    private final List<Tree> cells = new ArrayList<>();
    private final List<Tree> atoms = new ArrayList<>();
    private final List<Integer> learned = new ArrayList<>();
    private final List<List<Step>> threads = List.of(new ArrayList<>(), new ArrayList<>(), new ArrayList<>());
    private int secret = -1;
    private int status = 0;
    private int[] schedule = {};
    private Tree[] values = {};
    private final Map<Set<Tree>, Set<Tree>> opened = new HashMap<>();

    int atom(boolean compromised) {
        if (atoms.size() == 8 || cells.size() == 64) {
            return -1;
        }
        Tree made = new Tree(1, atoms.size(), compromised ? 1 : 0, null, null);
        atoms.add(made);
        return addCell(made);
    }

    int variable(int v) {
        if (v < 0 || v > 2) {
            return -1;
        }
        Tree made = new Tree(2, v, 0, null, null);
        if (cells.contains(made)) {
            return cells.indexOf(made);
        }
        return cells.size() == 64 ? -1 : addCell(made);
    }

    private int addCell(Tree made) {
        cells.add(made);
        status = 0;
        return cells.size() - 1;
    }

    int compose(int op, int a, int b) {
        if (op < 3 || op > 5 || !valid(a) || !valid(b)) {
            return -1;
        }
        Tree made = new Tree(op, 0, 0, cells.get(a), cells.get(b));
        if (made.size() > 32) {
            return -1;
        }
        if (cells.contains(made)) {
            return cells.indexOf(made);
        }
        if (cells.size() == 64) {
            return -1;
        }
        cells.add(made);
        return cells.size() - 1;
    }

    int cell(int t, int field) {
        if (!valid(t) || field < 0 || field > 3) {
            return -1;
        }
        Tree tree = cells.get(t);
        boolean leaf = tree.kind <= 2;
        int[] fields = {tree.kind, leaf ? tree.first : cells.indexOf(tree.left),
            leaf ? tree.second : cells.indexOf(tree.right), tree.size()};
        return fields[field];
    }

    boolean learn(int t) {
        if (!valid(t) || !cells.get(t).ground() || learned.size() == 8) {
            return false;
        }
        learned.add(t);
        status = 0;
        return true;
    }

    int known(int i) {
        return i >= 0 && i < learned.size() ? learned.get(i) : -1;
    }

    boolean derivable(int t) {
        return valid(t) && cells.get(t).ground() && derives(start(), cells.get(t));
    }

    boolean addStep(int thread, boolean send, int t) {
        int total = threads.get(0).size() + threads.get(1).size() + threads.get(2).size();
        if (thread < 0 || thread > 2 || !valid(t) || total == 6) {
            return false;
        }
        threads.get(thread).add(new Step(send, t));
        status = 0;
        return true;
    }

    int step(int thread, int index) {
        if (thread < 0 || thread > 2 || index < 0 || index >= threads.get(thread).size()) {
            return -1;
        }
        Step step = threads.get(thread).get(index);
        return 2 * step.term + (step.send ? 1 : 0);
    }

    boolean setSecret(int t) {
        if (!valid(t)) {
            return false;
        }
        secret = t;
        status = 0;
        return true;
    }

    int secret() {
        return secret;
    }

    int search() {
        if (secret == -1) {
            return 3;
        }
        opened.clear();
        status = 1;
        for (int length = 0; length <= 6 && status == 1; length++) {
            tryLength(length);
        }
        return status;
    }

    int status() {
        return status;
    }

    int traceLength() {
        return status == 2 ? schedule.length : -1;
    }

    int traceThread(int i) {
        return status == 2 && i >= 0 && i < schedule.length ? schedule[i] : -1;
    }

    int value(int v) {
        return status == 2 && declared(v) ? cells.indexOf(values[v]) : -1;
    }

    private boolean valid(int t) {
        return t >= 0 && t < cells.size();
    }

    private boolean declared(int v) {
        return cells.contains(new Tree(2, v, 0, null, null));
    }

    private Set<Tree> start() {
        Set<Tree> known = new HashSet<>();
        for (int t : learned) {
            known.add(cells.get(t));
        }
        return known;
    }

    private void tryLength(int length) {
        int schedules = 1;
        for (int i = 0; i < length; i++) {
            schedules *= 3;
        }
        for (int number = 0; number < schedules; number++) {
            int[] tried = new int[length];
            int rest = number;
            for (int i = length - 1; i >= 0; i--) {
                tried[i] = rest % 3;
                rest /= 3;
            }
            if (fits(tried) && trySchedule(tried)) {
                return;
            }
        }
    }

    private boolean fits(int[] tried) {
        int[] counts = new int[3];
        for (int thread : tried) {
            counts[thread]++;
        }
        for (int thread = 0; thread < 3; thread++) {
            if (counts[thread] > threads.get(thread).size()) {
                return false;
            }
        }
        return true;
    }

    private boolean trySchedule(int[] tried) {
        for (Tree first : choices(0)) {
            for (Tree second : choices(1)) {
                for (Tree third : choices(2)) {
                    Tree[] chosen = {first, second, third};
                    if (isAttack(tried, chosen)) {
                        status = 2;
                        schedule = tried;
                        values = chosen;
                        return true;
                    }
                }
            }
        }
        return false;
    }

    private List<Tree> choices(int v) {
        return declared(v) ? atoms : Arrays.asList(new Tree[1]);
    }

    private boolean isAttack(int[] tried, Tree[] chosen) {
        Set<Tree> known = start();
        int[] next = new int[3];
        for (int thread : tried) {
            Step step = threads.get(thread).get(next[thread]);
            next[thread]++;
            Tree message = cells.get(step.term).under(chosen);
            if (step.send) {
                known.add(message);
            } else if (!derives(known, message)) {
                return false;
            }
        }
        return derives(known, cells.get(secret).under(chosen));
    }

    private boolean derives(Set<Tree> known, Tree goal) {
        Set<Tree> parts = opened.get(known);
        if (parts == null) {
            parts = open(known);
            opened.put(new HashSet<>(known), parts);
        }
        return builds(parts, goal);
    }

    /** Takes apart whatever can be, trying to build each key from what there is so far. */
    static Set<Tree> open(Set<Tree> known) {
        Set<Tree> parts = new HashSet<>(known);
        boolean grew = true;
        while (grew) {
            grew = false;
            for (Tree tree : new ArrayList<>(parts)) {
                if (tree.kind == 3) {
                    grew |= parts.add(tree.left) | parts.add(tree.right);
                } else if (tree.kind == 4 && builds(parts, tree.right)) {
                    grew |= parts.add(tree.left);
                } else if (tree.kind == 5 && tree.right.kind == 1 && tree.right.second == 1) {
                    grew |= parts.add(tree.left);
                }
            }
        }
        return parts;
    }

    static boolean builds(Set<Tree> parts, Tree goal) {
        return parts.contains(goal)
            || goal.kind >= 3 && builds(parts, goal.left) && builds(parts, goal.right);
    }
}
