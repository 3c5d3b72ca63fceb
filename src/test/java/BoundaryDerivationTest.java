/** The boundary cases of "Derivation" and of promise 8, sentence by sentence. */
public final class BoundaryDerivationTest {
    private static final int[] OUTSIDE = {Integer.MIN_VALUE, Integer.MIN_VALUE + 1, -65, -64, -2, -1,
        Scene.OWN_CELLS, Scene.OWN_CELLS + 1, 63, 64, 65, 128, 1 << 16, Integer.MAX_VALUE - 1, Integer.MAX_VALUE};

    public static void main(String[] args) {
        wrongTerms();
        notGround();
        emptyK0();
        changesNothing();
        threadsAndSecretPlayNoPart();
        earlierSearchPlaysNoPart();
        whatIsKnown();
        pairRules();
        symmetricRules();
        asymmetricBuilding();
        asymmetricOpening();
        compromisedFlags();
        nothingElse();
        atomsAreKnownOnlyIfDerived();
        laterCellsCount();
        deepestTerms();
        longestChain();
        everyCellOfAFullTable();
        Check.end();
    }

    private static void wrongTerms() {
        Check.sentence("Promise 8: answers false if t is not a valid id");
        for (int t : OUTSIDE) {
            Scene.refused("derivable(" + t + ")", Scene.KNOWN, 0, x -> Scene.number(x.derivable(t)));
        }
        Scene.refused("derivable(64) in a full table", Scene.ALL, 0, x -> Scene.number(x.derivable(64)));
        Scene.refused("derivable(-1) in a full table", Scene.ALL, 0, x -> Scene.number(x.derivable(-1)));
    }

    private static void notGround() {
        Check.sentence("Promise 8: answers false if t is not ground");
        IntruderSearch x = Scene.atoms(1);
        int v = x.variable(0);
        x.learn(0);
        Check.due("a variable, the only atom is known", x.derivable(v), false);
        for (int op = 3; op <= 5; op++) {
            x.learn(x.compose(op, 0, 0));
            Check.due("variable first", x.derivable(x.compose(op, v, 0)), false);
            Check.due("variable second", x.derivable(x.compose(op, 0, v)), false);
            Check.due("variable twice", x.derivable(x.compose(op, v, v)), false);
            Check.due("no variable", x.derivable(x.compose(op, 0, x.compose(op, 0, 0))), true);
        }
        x.setSecret(v);
        Check.due("an attack that knows the variable", x.search(), 2);
        Check.due("a variable after the attack", x.derivable(v), false);
    }

    private static void emptyK0() {
        Check.sentence("Promise 8: with K0 empty, the answer is false for every t");
        IntruderSearch x = new IntruderSearch();
        for (int i = 0; i < 8; i++) {
            x.atom(i % 2 == 0);
        }
        x.variable(0);
        Scene.fill(x, 64);
        x.addStep(0, true, 0);
        x.addStep(1, true, 9);
        x.setSecret(0);
        for (int searched = 0; searched < 2; searched++) {
            for (int t = -1; t <= 64; t++) {
                Check.due("derivable(" + t + ")", x.derivable(t), false);
            }
            Check.due("an attack", x.search(), 2);
        }
    }

    private static void changesNothing() {
        Check.sentence("Promise 8: it changes nothing");
        Scene.refused("derivable, true", Scene.NOTHING, 1, x -> Scene.number(x.derivable(Scene.LOCKED)));
        Scene.refused("derivable, false", Scene.NOTHING, 0, x -> Scene.number(x.derivable(Scene.HIDDEN)));
        Scene.refused("derivable, all is full", Scene.ALL, 1, x -> Scene.number(x.derivable(Scene.LOCKED)));
        Scene.refused("derivable, a variable", Scene.NOTHING, 0, x -> Scene.number(x.derivable(Scene.VARIABLE)));
    }

    private static void threadsAndSecretPlayNoPart() {
        Check.sentence("Promise 8: threads and secret play no part");
        IntruderSearch x = Scene.atoms(3);
        x.learn(0);
        x.learn(x.compose(4, 2, 1));
        for (int thread = 0; thread < 3; thread++) {
            x.addStep(thread, true, 1);
            x.addStep(thread, false, 2);
        }
        Check.due("sent, not known", x.derivable(1), false);
        x.setSecret(2);
        Check.due("the secret", x.derivable(2), false);
        Check.due("search", x.search(), 2);
        Check.due("sent in the trace", x.derivable(1), false);
        Check.due("the secret found", x.derivable(2), false);
        Check.due("known all along", x.derivable(0), true);
    }

    private static void earlierSearchPlaysNoPart() {
        Check.sentence("Promise 8: the answer depends only on K0, the cells and the compromised flags");
        IntruderSearch x = Scene.atoms(3);
        int v = x.variable(0);
        int ground = x.compose(4, 2, 1);
        int open = x.compose(4, 2, v);
        x.learn(x.compose(3, ground, 0));
        x.setSecret(open);
        Check.due("search", x.search(), 2);
        Check.due("the attack gives 1 to the variable", x.value(0), 1);
        Check.due("equal under the attack's assignment only", x.derivable(open), false);
        Check.due("the ground one", x.derivable(ground), true);
        Check.due("its content", x.derivable(2), false);
        Check.due("the other part", x.derivable(0), true);
        // Composing does not reset, so that these cells are younger than the attack that is held.
        Check.due("built after the attack", x.derivable(x.compose(3, 0, ground)), true);
        Check.due("not to be built after the attack", x.derivable(x.compose(3, 0, 1)), false);
        Check.due("with a variable after the attack", x.derivable(x.compose(3, 0, v)), false);
        Check.due("the attack is still held", x.status(), 2);
    }

    private static void whatIsKnown() {
        Check.sentence("Derivation: DY(K) contains K");
        IntruderSearch x = Scene.atoms(8);
        for (int i = 0; i < 8; i++) {
            Check.due("not learned yet", x.derivable(7 - i), false);
            x.learn(7 - i);
            Check.due("learned as number " + i, x.derivable(7 - i), true);
        }
    }

    private static void pairRules() {
        Check.sentence("Derivation: u and w give PAIR(u,w)");
        builtFromBoth(3, false);
        Check.sentence("Derivation: PAIR(u,w) gives u and w");
        IntruderSearch x = Scene.atoms(2);
        x.learn(x.compose(3, 0, 1));
        Check.due("first", x.derivable(0), true);
        Check.due("second", x.derivable(1), true);
        Check.due("built anew the other way round", x.derivable(x.compose(3, 1, 0)), true);
    }

    /** A term of that kind takes both its parts, not one of them. */
    private static void builtFromBoth(int op, boolean compromised) {
        for (int known = 0; known < 4; known++) {
            IntruderSearch x = Scene.atoms(1);
            x.atom(compromised);
            x.atom(false);
            int t = x.compose(op, 0, 1);
            x.learn(2);
            if ((known & 1) != 0) {
                x.learn(0);
            }
            if ((known & 2) != 0) {
                x.learn(1);
            }
            Check.due("built with parts " + known, x.derivable(t), known == 3);
        }
        IntruderSearch y = Scene.atoms(0);
        y.atom(compromised);
        y.learn(0);
        Check.due("built of one part twice", y.derivable(y.compose(op, 0, 0)), true);
    }

    private static void symmetricRules() {
        Check.sentence("Derivation: m and k give SENC(m,k)");
        builtFromBoth(4, false);
        builtFromBoth(4, true);
        Check.sentence("Derivation: SENC(m,k) and k give m");
        for (int known = 0; known < 2; known++) {
            IntruderSearch x = Scene.atoms(2);
            x.learn(x.compose(4, 0, 1));
            Check.due("without the key", x.derivable(0), false);
            x.learn(known);
            Check.due("content", x.derivable(0), true);
            Check.due("the key is not given by the content", x.derivable(1), known == 1);
        }
        IntruderSearch y = Scene.atoms(1);
        y.atom(true);
        y.learn(y.compose(4, 0, 1));
        Check.due("under a compromised name as symmetric key", y.derivable(0), false);
        IntruderSearch z = Scene.atoms(3);
        int key = z.compose(5, z.compose(3, 1, 2), 2);
        z.learn(z.compose(4, 0, key));
        z.learn(1);
        Check.due("a part of a composite key", z.derivable(0), false);
        z.learn(2);
        Check.due("a composite key that can be built", z.derivable(0), true);
        IntruderSearch own = Scene.atoms(1);
        own.learn(own.compose(4, 0, 0));
        Check.due("locked under itself", own.derivable(0), false);
    }

    private static void asymmetricBuilding() {
        Check.sentence("Derivation: m and a give AENC(m,a)");
        builtFromBoth(5, false);
        builtFromBoth(5, true);
    }

    private static void asymmetricOpening() {
        Check.sentence("Derivation: AENC(m,a), with a a compromised ATOM, gives m");
        IntruderSearch x = Scene.atoms(2);
        int spy = x.atom(true);
        int names = x.compose(3, spy, spy);
        x.learn(x.compose(5, 0, 1));
        x.learn(1);
        Check.due("under a name that is known, not compromised", x.derivable(0), false);
        x.learn(x.compose(5, 0, names));
        x.learn(spy);
        Check.due("under a composite of compromised names that is known", x.derivable(0), false);
        IntruderSearch y = Scene.atoms(2);
        spy = y.atom(true);
        y.learn(y.compose(5, 0, spy));
        Check.due("under a compromised name that is not known", y.derivable(0), true);
        Check.due("the name itself is not given", y.derivable(spy), false);
        // The composite key's parts read 0 and 1, as a compromised atom's number and flag do.
        for (int op = 3; op <= 5; op++) {
            IntruderSearch z = Scene.atoms(2);
            z.learn(z.compose(5, 1, z.compose(op, 0, 1)));
            Check.due("under a composite that looks like a flag", z.derivable(1), false);
        }
    }

    private static void compromisedFlags() {
        Check.sentence("Terms: each atom has a flag, compromised: the intruder holds the private key of that name");
        for (int flags = 0; flags < 256; flags++) {
            for (int name = 1; name < 8; name++) {
                IntruderSearch x = new IntruderSearch();
                for (int i = 0; i < 8; i++) {
                    x.atom((flags >> i & 1) != 0);
                }
                x.learn(x.compose(5, 0, name));
                Check.due("opened under atom " + name + ", flags " + flags, x.derivable(0), (flags >> name & 1) != 0);
            }
        }
    }

    /** A term of each kind, with each choice of what else is known; the atoms are m, k and one that is not in it. */
    private static void nothingElse() {
        Check.sentence("Derivation: nothing else is in DY(K)");
        for (int op = 3; op <= 5; op++) {
            for (int known = 0; known < 8; known++) {
                for (int flags = 0; flags < 4; flags++) {
                    IntruderSearch x = new IntruderSearch();
                    x.atom((flags & 1) != 0);
                    x.atom((flags & 2) != 0);
                    x.atom(true);
                    x.learn(x.compose(op, 0, 1));
                    for (int i = 0; i < 3; i++) {
                        if ((known >> i & 1) != 0) {
                            x.learn(i);
                        }
                    }
                    boolean opened = op == 3 || op == 4 && (known & 2) != 0 || op == 5 && (flags & 2) != 0;
                    boolean[] due = {opened || (known & 1) != 0, op == 3 || (known & 2) != 0, (known & 4) != 0};
                    String what = "kind " + op + ", known " + known + ", flags " + flags;
                    allAndOnly(what, x, op, due);
                }
            }
        }
    }

    /** The atoms as said, and of the terms built of them those whose parts both are, and the one that was learned. */
    private static void allAndOnly(String what, IntruderSearch x, int learned, boolean[] atoms) {
        for (int i = 0; i < 3; i++) {
            Check.due(what + ": atom " + i, x.derivable(i), atoms[i]);
        }
        for (int code = 0; code < 27; code++) {
            int op = 3 + code % 3;
            int first = code / 3 % 3;
            int second = code / 9;
            boolean due = atoms[first] && atoms[second] || op == learned && first == 0 && second == 1;
            int t = x.compose(op, first, second);
            Check.due(what + ": " + op + " of " + first + " and " + second, x.derivable(t), due);
        }
    }

    private static void atomsAreKnownOnlyIfDerived() {
        Check.sentence("Derivation: an atom is known only if it is derived");
        IntruderSearch x = new IntruderSearch();
        for (int i = 0; i < 8; i++) {
            x.atom(i % 2 == 0);
        }
        x.learn(3);
        for (int i = 0; i < 8; i++) {
            Check.due("atom " + i, x.derivable(i), i == 3);
        }
    }

    private static void laterCellsCount() {
        Check.sentence("Promise 8: whether the tree of t is in DY(K0), however late its cell was made");
        IntruderSearch x = Scene.atoms(3);
        x.learn(0);
        x.learn(1);
        Scene.fill(x, 63);
        int last = x.compose(5, x.compose(4, 0, 1), 1);
        Check.due("id of the last cell", last, 63);
        Check.due("built from cells made after learning", x.derivable(last), true);
        // The key's cell is younger than the lock's content, and the lock is opened by a built key.
        IntruderSearch y = Scene.atoms(4);
        int lock = y.compose(4, 3, y.compose(3, y.compose(3, 0, 1), 2));
        y.learn(2);
        y.learn(1);
        y.learn(lock);
        Check.due("a part of the key is missing", y.derivable(3), false);
        y.learn(0);
        Check.due("no part of the key is missing", y.derivable(3), true);
    }

    private static void deepestTerms() {
        Check.sentence("Derivation: closed under these rules, as deep as MAX_SIZE allows");
        for (int op = 3; op <= 5; op++) {
            IntruderSearch x = new IntruderSearch();
            x.atom(false);
            int key = x.atom(true);
            int deep = 0;
            for (int i = 0; i < 15; i++) {
                deep = x.compose(op, deep, key);
            }
            Check.due("size", x.cell(deep, 3), 31);
            x.learn(key);
            Check.due("built from the bottom, one part missing", x.derivable(deep), false);
            x.learn(deep);
            Check.due("opened to the bottom", x.derivable(0), true);
            IntruderSearch y = new IntruderSearch();
            y.atom(false);
            deep = 0;
            for (int i = 0; i < 15; i++) {
                deep = y.compose(op, 0, deep);
            }
            y.learn(0);
            Check.due("built to the top", y.derivable(deep), true);
        }
    }

    /** Each lock holds the key of the one made before it, so that a pass over the cells in order opens one only. */
    private static void longestChain() {
        Check.sentence("Derivation: the least closed set, however many rounds it takes");
        IntruderSearch x = Scene.atoms(8);
        int hidden = 7;
        int[] keys = new int[21];
        for (int i = 0; i < 7; i++) {
            keys[i] = i;
            keys[7 + i] = x.compose(4, i, hidden);
            keys[14 + i] = x.compose(5, i, hidden);
        }
        int[] locks = new int[20];
        for (int i = 0; i < 20; i++) {
            locks[i] = x.compose(4, keys[i], keys[i + 1]);
        }
        for (int i = 0; i < 20; i += 3) {
            int rest = i + 2 < 20 ? x.compose(3, locks[i + 1], locks[i + 2]) : locks[i + 1];
            Check.due("learn locks from " + i, x.learn(x.compose(3, locks[i], rest)), true);
        }
        Check.due("without the last key", x.derivable(0), false);
        x.learn(keys[20]);
        Check.due("with the last key", x.derivable(0), true);
        Check.due("the hidden key", x.derivable(hidden), false);
        Check.due("cells fit", Scene.cellsOf(x) <= 64 && locks[19] > 0, true);
    }

    private static void everyCellOfAFullTable() {
        Check.sentence("Promise 8: whether the tree of t is in DY(K0), for each cell of a full table");
        for (int learned = 0; learned < 64; learned++) {
            IntruderSearch x = new IntruderSearch();
            Model model = new Model();
            for (int i = 0; i < 4; i++) {
                Check.due("atom", x.atom(i == 1), model.atom(i == 1));
            }
            Scene.fill(x, 64);
            for (int t = 4; t < 64; t++) {
                Check.due("compose", model.compose(x.cell(t, 0), x.cell(t, 1), x.cell(t, 2)), t);
            }
            Check.due("learn", x.learn(learned), model.learn(learned));
            Check.due("derivable is what was learned", x.derivable(learned), true);
            for (int t = 0; t < 64; t++) {
                Check.due("derivable(" + t + ") from " + learned, x.derivable(t), model.derivable(t));
            }
            Check.due("learn", x.learn(2), model.learn(2));
            for (int t = 0; t < 64; t++) {
                Check.due("derivable(" + t + ") from " + learned + " and 2", x.derivable(t), model.derivable(t));
            }
        }
    }
}
