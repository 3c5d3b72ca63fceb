/** Promise 8: what the intruder derives from K0. */
public final class DerivationTest {
    private static final int PAIR = IntruderSearch.PAIR;
    private static final int SENC = IntruderSearch.SENC;
    private static final int AENC = IntruderSearch.AENC;

    public static void main(String[] args) {
        wrongTerms();
        nothingFromNothing();
        pairs();
        symmetric();
        symmetricWithCompositeKey();
        asymmetric();
        asymmetricUnderCompositeKey();
        keyFoundLater();
        lockedByItself();
        stepsAndSecretPlayNoPart();
        termsMadeAfterLearning();
        longChain();
        keepsTheOutcome();
        Check.end();
    }

    private static void wrongTerms() {
        IntruderSearch x = new IntruderSearch();
        x.atom(false);
        x.variable(0);
        x.compose(PAIR, 0, 1);
        x.compose(SENC, 1, 0);
        x.compose(PAIR, 1, 1);
        x.learn(0);
        for (int t : Check.edges()) {
            Check.due("derivable(" + t + ")", x.derivable(t), t == 0);
        }
    }

    private static void nothingFromNothing() {
        IntruderSearch x = new IntruderSearch();
        x.atom(true);
        x.atom(false);
        x.compose(PAIR, 0, 1);
        x.compose(AENC, 1, 0);
        for (int t = 0; t < 4; t++) {
            Check.due("from empty K0: " + t, x.derivable(t), false);
        }
    }

    private static void pairs() {
        IntruderSearch x = atoms(4);
        int ab = x.compose(PAIR, 0, 1);
        int nested = x.compose(PAIR, 2, ab);
        int ba = x.compose(PAIR, 1, 0);
        int ad = x.compose(PAIR, 0, 3);
        x.learn(nested);
        Check.due("first of pair", x.derivable(2), true);
        Check.due("second of pair", x.derivable(ab), true);
        Check.due("first of inner pair", x.derivable(0), true);
        Check.due("second of inner pair", x.derivable(1), true);
        Check.due("pair built anew", x.derivable(ba), true);
        Check.due("pair with an unknown", x.derivable(ad), false);
        Check.due("unknown atom", x.derivable(3), false);
    }

    private static void symmetric() {
        IntruderSearch x = atoms(4);
        int locked = x.compose(SENC, 0, 1);
        int built = x.compose(SENC, 2, 1);
        int other = x.compose(SENC, 1, 0);
        x.learn(locked);
        Check.due("locked itself", x.derivable(locked), true);
        Check.due("locked content", x.derivable(0), false);
        Check.due("key of the lock", x.derivable(1), false);
        x.learn(1);
        Check.due("opened content", x.derivable(0), true);
        Check.due("built from content and key", x.derivable(other), true);
        Check.due("unknown content", x.derivable(built), false);
        x.learn(2);
        Check.due("known content", x.derivable(built), true);
        Check.due("not another kind", x.derivable(x.compose(SENC, 2, 3)), false);
    }

    private static void symmetricWithCompositeKey() {
        IntruderSearch x = atoms(4);
        int key = x.compose(PAIR, 1, 2);
        int locked = x.compose(SENC, 0, key);
        x.learn(locked);
        x.learn(1);
        Check.due("half a key", x.derivable(0), false);
        x.learn(2);
        Check.due("key built from its parts", x.derivable(0), true);
    }

    private static void asymmetric() {
        IntruderSearch x = atoms(3);
        int name = x.atom(true);
        int forHonest = x.compose(AENC, 0, 1);
        int forCompromised = x.compose(AENC, 0, name);
        x.learn(forHonest);
        x.learn(1);
        Check.due("under an honest name, name known", x.derivable(0), false);
        x.learn(forCompromised);
        Check.due("under a compromised name, name not known", x.derivable(0), true);
        Check.due("the compromised name itself", x.derivable(name), false);
        int built = x.compose(AENC, 0, 1);
        Check.due("public key encryption needs the name", x.derivable(x.compose(AENC, 1, name)), false);
        Check.due("public key encryption", x.derivable(built), true);
    }

    private static void asymmetricUnderCompositeKey() {
        IntruderSearch x = atoms(1);
        int name = x.atom(true);
        int names = x.compose(PAIR, name, name);
        int locked = x.compose(AENC, 0, names);
        x.learn(locked);
        x.learn(name);
        Check.due("no private key of a composite", x.derivable(0), false);
        // FIELD_SECOND of this key reads 1, as a compromised atom's does.
        int likeFlag = x.compose(PAIR, 0, 1);
        IntruderSearch y = atoms(2);
        y.compose(PAIR, 0, 1);
        y.compose(AENC, 0, 2);
        y.learn(3);
        Check.due("a pair is no compromised name", y.derivable(0), false);
        Check.due("pair of 0 and 1", x.derivable(likeFlag), false);
    }

    private static void keyFoundLater() {
        IntruderSearch x = atoms(4);
        int first = x.compose(SENC, 0, 1);
        int second = x.compose(SENC, 1, 2);
        int third = x.compose(SENC, 2, 3);
        x.learn(first);
        x.learn(second);
        x.learn(third);
        Check.due("all locked", x.derivable(0), false);
        x.learn(3);
        Check.due("chain of keys", x.derivable(0), true);
    }

    private static void lockedByItself() {
        IntruderSearch x = atoms(2);
        int self = x.compose(SENC, 0, 0);
        int crossed = x.compose(PAIR, x.compose(SENC, 0, 1), x.compose(SENC, 1, 0));
        x.learn(self);
        x.learn(crossed);
        Check.due("content locked by itself", x.derivable(0), false);
        Check.due("contents locked by each other", x.derivable(1), false);
    }

    private static void stepsAndSecretPlayNoPart() {
        IntruderSearch x = atoms(2);
        x.learn(0);
        x.addStep(0, true, 1);
        x.setSecret(1);
        Check.due("attack by a step", x.search(), IntruderSearch.ATTACK);
        Check.due("sent but not in K0", x.derivable(1), false);
    }

    private static void termsMadeAfterLearning() {
        IntruderSearch x = atoms(2);
        x.learn(0);
        x.learn(1);
        int t = x.compose(AENC, x.compose(SENC, 0, 1), x.compose(PAIR, 1, 0));
        Check.due("composed afterwards", x.derivable(t), true);
        x.variable(1);
        Check.due("after a variable", x.derivable(t), true);
    }

    /** A chain of 20 locks, made in the order that is worst for one pass: a pass opens one lock only. */
    private static void longChain() {
        IntruderSearch x = atoms(8);
        int[] keys = new int[21];
        // Atom 7 is never known, so that what is encrypted under it is as good as a further name.
        for (int i = 0; i < 7; i++) {
            keys[i] = i;
            keys[7 + i] = x.compose(SENC, i, 7);
            keys[14 + i] = x.compose(AENC, i, 7);
        }
        int[] locks = new int[21];
        for (int i = 0; i < 20; i++) {
            locks[i] = x.compose(SENC, keys[i], keys[i + 1]);
        }
        locks[20] = x.compose(PAIR, 0, 0);
        for (int i = 1; i < 21; i += 3) {
            int three = x.compose(PAIR, locks[i - 1], x.compose(PAIR, locks[i], locks[i + 1 < 20 ? i + 1 : i]));
            Check.due("learn locks", x.learn(three), true);
        }
        Check.due("chain is shut", x.derivable(0), false);
        Check.due("learn the last key", x.learn(keys[20]), true);
        for (int i = 0; i < 21; i++) {
            Check.due("key " + i + " of the chain", x.derivable(keys[i]), true);
        }
        Check.due("pair from the end of the chain", x.derivable(locks[20]), true);
        Check.due("the last atom stays hidden", x.derivable(7), false);
    }

    private static void keepsTheOutcome() {
        IntruderSearch x = atoms(2);
        x.variable(0);
        x.learn(1);
        x.addStep(2, true, 0);
        x.setSecret(0);
        x.search();
        String before = Check.outcome(x);
        for (int t : Check.edges()) {
            x.derivable(t);
        }
        Check.same("derivable changed", Check.outcome(x), before);
    }

    private static IntruderSearch atoms(int count) {
        IntruderSearch x = new IntruderSearch();
        for (int i = 0; i < count; i++) {
            x.atom(false);
        }
        return x;
    }
}
