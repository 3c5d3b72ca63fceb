/**
 * Each rule of "Derivation" wherever the document asks for DY: in derivable, for a received message and for
 * the secret, from K0 and from what was sent, with and without a variable. The other tests see to it that a
 * rule holds at all; this one, that it holds in each of these places.
 */
public final class BoundaryRulesTest {
    private static final boolean SEND = true;
    private static final boolean RECEIVE = false;

    /** Terms by their place in what termsOf answers; the spy is compromised, the hidden atom is never known. */
    private static final int M = 0;
    private static final int K = 1;
    private static final int SPY = 2;
    private static final int HIDDEN = 3;
    private static final int END = 4;
    private static final int PAIR = 5;
    private static final int SENC = 6;
    private static final int AENC = 7;
    private static final int SENC_SPY = 8;
    private static final int AENC_SPY = 9;

    public static void main(String[] args) {
        Check.sentence("Derivation: u and w give PAIR(u,w)");
        derives(true, PAIR, M, K);
        derives(false, PAIR, M);
        derives(false, PAIR, K);
        Check.sentence("Derivation: PAIR(u,w) gives u and w");
        derives(true, M, PAIR);
        derives(true, K, PAIR);
        Check.sentence("Derivation: m and k give SENC(m,k)");
        derives(true, SENC, M, K);
        derives(false, SENC, M);
        derives(false, SENC, K);
        Check.sentence("Derivation: SENC(m,k) and k give m");
        derives(true, M, SENC, K);
        derives(false, M, SENC);
        Check.sentence("Derivation: m and a give AENC(m,a)");
        derives(true, AENC, M, K);
        derives(true, AENC_SPY, M, SPY);
        derives(false, AENC, M);
        derives(false, AENC, K);
        Check.sentence("Derivation: AENC(m,a), with a a compromised ATOM, gives m");
        derives(true, M, AENC_SPY);
        derives(false, M, AENC);
        derives(false, M, AENC, K);
        Check.sentence("Derivation: nothing else is in DY(K)");
        derives(false, K, SENC, M);
        derives(false, K, AENC, M);
        derives(false, SPY, AENC_SPY);
        derives(false, M, SENC_SPY);
        derives(false, SENC, AENC, SPY);
        derives(false, AENC, SENC, SPY);
        derives(false, HIDDEN, M, K, SPY);
        Check.end();
    }

    private static void derives(boolean due, int goal, int... known) {
        StringBuilder from = new StringBuilder("term " + goal + " from");
        for (int term : known) {
            from.append(' ').append(term);
        }
        fromK0(from + " in K0", due, goal, known);
        fromSent(from + " sent", due, goal, known);
        for (int replaced = M; replaced <= SPY; replaced++) {
            underAssignment(from + ", a variable for " + replaced, replaced, due, goal, known);
        }
    }

    /** The ids of all terms, with one atom's cell given; its number stays that of the atom in the object. */
    private static int[] termsOf(IntruderSearch x, int replaced, int cell) {
        int[] terms = {M, K, SPY, HIDDEN, END, 0, 0, 0, 0, 0};
        terms[replaced] = cell;
        terms[PAIR] = x.compose(3, terms[M], terms[K]);
        terms[SENC] = x.compose(4, terms[M], terms[K]);
        terms[AENC] = x.compose(5, terms[M], terms[K]);
        terms[SENC_SPY] = x.compose(4, terms[M], terms[SPY]);
        terms[AENC_SPY] = x.compose(5, terms[M], terms[SPY]);
        return terms;
    }

    private static IntruderSearch fiveAtoms() {
        IntruderSearch x = new IntruderSearch();
        for (int i = M; i <= END; i++) {
            x.atom(i == SPY);
        }
        return x;
    }

    private static void fromK0(String what, boolean due, int goal, int[] known) {
        IntruderSearch x = fiveAtoms();
        int[] terms = termsOf(x, M, M);
        for (int term : known) {
            x.learn(terms[term]);
        }
        Check.due(what + ": derivable", x.derivable(terms[goal]), due);
        x.setSecret(terms[goal]);
        Check.searched(what + ": secret", x, due ? "0 | - - -" : "SAFE");
        x.addStep(1, RECEIVE, terms[goal]);
        x.addStep(1, SEND, END);
        x.setSecret(END);
        Check.searched(what + ": received", x, due ? "2 1 1 | - - -" : "SAFE");
    }

    /** Whatever is known is needed where the goal is derived, so that the attack takes all of it. */
    private static void fromSent(String what, boolean due, int goal, int[] known) {
        IntruderSearch x = fiveAtoms();
        int[] terms = termsOf(x, M, M);
        for (int term : known) {
            x.addStep(0, SEND, terms[term]);
        }
        String sent = " 0".repeat(known.length);
        Check.due(what + ": derivable", x.derivable(terms[goal]), false);
        x.setSecret(terms[goal]);
        Check.searched(what + ": secret", x, due ? known.length + sent + " | - - -" : "SAFE");
        x.addStep(1, RECEIVE, terms[goal]);
        x.addStep(1, SEND, END);
        x.setSecret(END);
        Check.searched(what + ": received", x, due ? known.length + 2 + sent + " 1 1 | - - -" : "SAFE");
    }

    /** The variable must be the atom that it replaces, or the first message could not be received. */
    private static void underAssignment(String what, int replaced, boolean due, int goal, int[] known) {
        IntruderSearch x = fiveAtoms();
        int variable = x.variable(0);
        int[] terms = termsOf(x, replaced, variable);
        x.learn(x.compose(4, replaced, HIDDEN));
        x.addStep(0, RECEIVE, x.compose(4, variable, HIDDEN));
        for (int term : known) {
            x.addStep(0, SEND, terms[term]);
        }
        String sent = known.length + 1 + " 0" + " 0".repeat(known.length);
        x.setSecret(terms[goal]);
        Check.searched(what + ": secret", x, due ? sent + " | " + replaced + " - -" : "SAFE");
    }
}
