/** Promise 8 with ordinary inputs: what the intruder derives from K0. */
public final class DerivationTest {
    private static final int PAIR = IntruderSearch.PAIR;
    private static final int SENC = IntruderSearch.SENC;
    private static final int AENC = IntruderSearch.AENC;

    public static void main(String[] args) {
        pairs();
        symmetric();
        symmetricWithCompositeKey();
        asymmetric();
        asymmetricUnderCompositeKey();
        keyFoundLater();
        lockedByItself();
        termsMadeAfterLearning();
        Check.end();
    }

    private static void pairs() {
        IntruderSearch x = Scene.atoms(4);
        int ab = x.compose(PAIR, 0, 1);
        int nested = x.compose(PAIR, 2, ab);
        int ba = x.compose(PAIR, 1, 0);
        int ad = x.compose(PAIR, 0, 3);
        x.learn(nested);
        Check.due("first of pair", x.derivable(2), true);
        Check.due("second of pair", x.derivable(ab), true);
        Check.due("first of inner pair", x.derivable(0), true);
        Check.due("second of inner pair", x.derivable(1), true);
        Check.due("pair built anew", x.derivable(ba), true);
        Check.due("pair with an unknown", x.derivable(ad), false);
        Check.due("unknown atom", x.derivable(3), false);
    }

    private static void symmetric() {
        IntruderSearch x = Scene.atoms(4);
        int locked = x.compose(SENC, 0, 1);
        int built = x.compose(SENC, 2, 1);
        int other = x.compose(SENC, 1, 0);
        x.learn(locked);
        Check.due("locked itself", x.derivable(locked), true);
        Check.due("locked content", x.derivable(0), false);
        Check.due("key of the lock", x.derivable(1), false);
        x.learn(1);
        Check.due("opened content", x.derivable(0), true);
        Check.due("built from content and key", x.derivable(other), true);
        Check.due("unknown content", x.derivable(built), false);
        x.learn(2);
        Check.due("known content", x.derivable(built), true);
        Check.due("not another kind", x.derivable(x.compose(SENC, 2, 3)), false);
    }

    private static void symmetricWithCompositeKey() {
        IntruderSearch x = Scene.atoms(4);
        int key = x.compose(PAIR, 1, 2);
        int locked = x.compose(SENC, 0, key);
        x.learn(locked);
        x.learn(1);
        Check.due("half a key", x.derivable(0), false);
        x.learn(2);
        Check.due("key built from its parts", x.derivable(0), true);
    }

    private static void asymmetric() {
        IntruderSearch x = Scene.atoms(3);
        int name = x.atom(true);
        int forHonest = x.compose(AENC, 0, 1);
        int forCompromised = x.compose(AENC, 0, name);
        x.learn(forHonest);
        x.learn(1);
        Check.due("under an honest name, name known", x.derivable(0), false);
        x.learn(forCompromised);
        Check.due("under a compromised name, name not known", x.derivable(0), true);
        Check.due("the compromised name itself", x.derivable(name), false);
        int built = x.compose(AENC, 0, 1);
        Check.due("public key encryption needs the name", x.derivable(x.compose(AENC, 1, name)), false);
        Check.due("public key encryption", x.derivable(built), true);
    }

    private static void asymmetricUnderCompositeKey() {
        IntruderSearch x = Scene.atoms(1);
        int name = x.atom(true);
        int names = x.compose(PAIR, name, name);
        int locked = x.compose(AENC, 0, names);
        x.learn(locked);
        x.learn(name);
        Check.due("no private key of a composite", x.derivable(0), false);
        // FIELD_SECOND of this key reads 1, as a compromised atom's does.
        int likeFlag = x.compose(PAIR, 0, 1);
        IntruderSearch y = Scene.atoms(2);
        y.compose(PAIR, 0, 1);
        y.compose(AENC, 0, 2);
        y.learn(3);
        Check.due("a pair is no compromised name", y.derivable(0), false);
        Check.due("pair of 0 and 1", x.derivable(likeFlag), false);
    }

    private static void keyFoundLater() {
        IntruderSearch x = Scene.atoms(4);
        int first = x.compose(SENC, 0, 1);
        int second = x.compose(SENC, 1, 2);
        int third = x.compose(SENC, 2, 3);
        x.learn(first);
        x.learn(second);
        x.learn(third);
        Check.due("all locked", x.derivable(0), false);
        x.learn(3);
        Check.due("chain of keys", x.derivable(0), true);
    }

    private static void lockedByItself() {
        IntruderSearch x = Scene.atoms(2);
        int self = x.compose(SENC, 0, 0);
        int crossed = x.compose(PAIR, x.compose(SENC, 0, 1), x.compose(SENC, 1, 0));
        x.learn(self);
        x.learn(crossed);
        Check.due("content locked by itself", x.derivable(0), false);
        Check.due("contents locked by each other", x.derivable(1), false);
    }

    private static void termsMadeAfterLearning() {
        IntruderSearch x = Scene.atoms(2);
        x.learn(0);
        x.learn(1);
        int t = x.compose(AENC, x.compose(SENC, 0, 1), x.compose(PAIR, 1, 0));
        Check.due("composed afterwards", x.derivable(t), true);
        x.variable(1);
        Check.due("after a variable", x.derivable(t), true);
    }
}
