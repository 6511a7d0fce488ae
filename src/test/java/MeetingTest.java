/** Promises 10 to 12: which LITERALS meet. */
public final class MeetingTest {
    private static final int NONE = OppositePairs.NONE;

    public static void main(String[] args) {
        pairs();
        wrongInputs();
        partnersOfLiterals();
        pureClauses();
        besideAProof();
        nestedTwiceInTwice();
        longChain();
        twoLongChains();
        Check.finish("MeetingTest");
    }

    private static void pair(String one, String other, int want) {
        OppositePairs x = Check.told(one + ". " + other + ".");
        Check.due(one + " meets " + other, x.meets(0, 0, 1, 0), want);
        Check.due(other + " meets " + one, x.meets(1, 0, 0, 0), want);
    }

    private static void pairs() {
        pair("p", "-p", 1);
        pair("p", "p", 0);
        pair("-p", "-p", 0);
        pair("p", "-q", 0);
        pair("p(a)", "-p", 0);
        pair("p(a)", "-p(a,a)", 0);
        pair("p(a)", "-p(b)", 0);
        pair("p(X)", "-p(b)", 1);
        pair("p(X,X)", "-p(a,b)", 0);
        pair("p(X,X)", "-p(a,Y)", 1);
        // VARIABLES of like letters in two CLAUSES are unlike.
        pair("p(X,a)", "-p(b,X)", 1);
        pair("p(X)", "-p(f(X))", 1);
        pair("p(X,X)", "-p(Y,f(Y))", 0);
        pair("p(X,Y,X)", "-p(f(Z),Z,Y)", 1);
        pair("p(X,f(X))", "-p(Y,Y)", 0);
        pair("p(X,Y)", "-p(f(Y),f(X))", 1);
        pair("p(X,Y,Y)", "-p(f(U),f(V),g)", 0);
        pair("p(X,Y,f(X,Y))", "-p(f(Z),Z,f(Y,X))", 1);
        pair("p(X,Y,f(X,Y))", "-p(f(Z),Z,f(Y,Y))", 0);
        pair("p(f)", "-p(f(X))", 0);
        pair("p(f(X))", "-p(f(X,Y))", 0);
        pair("p(X,X,a)", "-p(Y,Z,Z)", 1);
        pair("p(X,X,a)", "-p(b,Z,Z)", 0);
    }

    private static void wrongInputs() {
        OppositePairs x = Check.told("p|-p. q.");
        int[][] wrong = {{-1, 0, 0, 0}, {2, 0, 0, 0}, {0, 2, 0, 0}, {0, -1, 0, 0}, {0, 0, 2, 0}, {0, 0, -1, 0}, {0, 0, 1, 1},
            {0, 0, 0, -1}, {Integer.MAX_VALUE, 0, 0, Integer.MIN_VALUE}};
        for (int[] w : wrong) {
            Check.due("meets", x.meets(w[0], w[1], w[2], w[3]), NONE);
        }
        Check.due("partners(2, 0)", x.partners(2, 0), NONE);
        Check.due("partners(-1, 0)", x.partners(-1, 0), NONE);
        Check.due("partners(1, 1)", x.partners(1, 1), NONE);
        Check.due("partners(0, -1)", x.partners(0, -1), NONE);
        // Of two INSTANCES of one CLAUSE.
        Check.due("meets(0, 0, 0, 1)", x.meets(0, 0, 0, 1), 1);
        Check.due("meets(0, 0, 0, 0)", x.meets(0, 0, 0, 0), 0);
    }

    private static void partnersOfLiterals() {
        OppositePairs x = Check.told("p(X)|-p(f(X)). -p(a). p(b)|-p(Y). p.");
        Check.due("partners(0, 0)", x.partners(0, 0), 3);
        Check.due("partners(0, 1)", x.partners(0, 1), 1);
        Check.due("partners(1, 0)", x.partners(1, 0), 1);
        Check.due("partners(2, 0)", x.partners(2, 0), 1);
        Check.due("partners(2, 1)", x.partners(2, 1), 2);
        Check.due("partners(3, 0)", x.partners(3, 0), 0);
    }

    private static void pureClauses() {
        Check.due("pure", Check.told("p. -p. q.").pure(), 4);
        Check.due("pure", Check.told("p|q. -p. -q|r.").pure(), 7);
        Check.due("pure", Check.told("a. -a|b. -b|c. -c|d. -d.").pure(), 0);
        Check.due("pure", Check.told("a. -a|b. -b|c. -c|d.").pure(), 15);
        Check.due("pure", Check.told("p(X)|-p(f(X)).").pure(), 0);
        Check.due("pure", Check.told("p(a)|-p(b).").pure(), 1);
        Check.due("pure", Check.told("p(a)|-p(b). p(b). q(X).").pure(), 7);
        Check.due("pure", Check.told("a.".repeat(16)).pure(), 65535);
        // One goes in each of sixteen rounds.
        StringBuilder chain = new StringBuilder("a.");
        for (char c = 'a'; c < 'p'; c++) {
            chain.append("-" + c + "|" + (char) (c + 1) + ".");
        }
        Check.due("pure", Check.told(chain.toString()).pure(), 65535);
        Check.due("pure", Check.told("a.-a.".repeat(8)).pure(), 0);
    }

    /** What THE PROOF has bound is not touched. */
    private static void besideAProof() {
        OppositePairs x = Check.told("p(X)|q(X,Y). -p(f(a)). -q(f(a),g(Z)).");
        Check.due("solve", x.solve(0, 1, 0), 1);
        Check.due("meets(0, 0, 1, 0)", x.meets(0, 0, 1, 0), 1);
        Check.due("pure", x.pure(), 0);
        Check.due("partners", x.partners(0, 1), 1);
        Check.due("shown", Check.shown(x, 0, 1), "q(f(a),g(Z2))");
        Check.due("shown", Check.shown(x, 0, 0), "p(f(a))");
        Check.due("show", Check.show(x, 0, 1), "q(X,Y)");
    }

    /** A VARIABLE bound to nine times one that is bound to nine times the next one, fourteen times: found at once. */
    private static void longChain() {
        StringBuilder[] sides = {new StringBuilder(), new StringBuilder()};
        String[] one = new String[14];
        String[] other = new String[14];
        for (int i = 0; i < 14; i++) {
            String low = String.valueOf((char) ('H' - (i + 1) / 2));
            String high = String.valueOf((char) ('H' - (i + 2) / 2));
            String nine = "g(g(Q,Q,Q),g(Q,Q,Q),g(Q,Q,Q))".replace("Q", i % 2 == 0 ? low : high);
            one[i] = i % 2 == 0 ? nine : low;
            other[i] = i % 2 == 0 ? high : nine.replace(high, low);
        }
        for (int side = 0; side < 2; side++) {
            String[] e = side == 0 ? one : other;
            sides[side].append(side == 0 ? "p(c(" : "-p(c(");
            for (int i = 0; i < 9; i += 3) {
                sides[side].append(i == 0 ? "" : ",").append("c(" + e[i] + "," + e[i + 1] + "," + e[i + 2] + ")");
            }
            sides[side].append("),c(" + e[9] + "," + e[10] + "," + e[11] + "),c(" + e[12] + "," + e[13] + "))");
        }
        pair(sides[0].toString(), sides[1].toString(), 1);
    }

    /** Two TERMS of 9 to the 7th parts, bound by and by, are found to be ALIKE without going through all of them. */
    private static void twoLongChains() {
        String nine = "g(g(Q,Q,Q),g(Q,Q,Q),g(Q,Q,Q))";
        String[] one = new String[15];
        String[] other = new String[15];
        for (int i = 1; i <= 7; i++) {
            String lower = String.valueOf((char) ('A' + i - 1));
            String upper = String.valueOf((char) ('A' + i));
            one[2 * i - 2] = upper;
            other[2 * i - 2] = nine.replace("Q", lower);
            one[2 * i - 1] = nine.replace("Q", lower);
            other[2 * i - 1] = upper;
        }
        one[14] = "H";
        other[14] = "H";
        pair("p" + grouped(one), "-p" + grouped(other), 1);
        // Far down they are unlike.
        one[1] = nine.replace("Q", "a");
        other[0] = nine.replace("Q", "b");
        pair("p" + grouped(one), "-p" + grouped(other), 0);
    }

    private static String grouped(String[] terms) {
        String[] threes = new String[5];
        for (int i = 0; i < 5; i++) {
            threes[i] = "c(" + terms[3 * i] + "," + terms[3 * i + 1] + "," + terms[3 * i + 2] + ")";
        }
        return "(c(" + threes[0] + "," + threes[1] + "," + threes[2] + ")," + threes[3] + "," + threes[4] + ")";
    }

    /** Terms of some 3 to the 7th parts are ALIKE or not, without going through all of them more than once. */
    private static void nestedTwiceInTwice() {
        String one = "p(c(A,B,C),c(D,E,F),c(G,H,A))";
        String other = "-p(c(f(B,B,B),f(C,C,C),f(D,D,D)),c(f(E,E,E),f(F,F,F),f(G,G,G)),c(f(H,H,H),H,f(B,B,B)))";
        pair(one, other, 1);
        String circle = "-p(c(f(B,B,B),f(C,C,C),f(D,D,D)),c(f(E,E,E),f(F,F,F),f(G,G,G)),c(f(H,H,H),H,B))";
        pair(one, circle, 0);
        // Two chains that double at each link, then their ends.
        String left = "p(c(A,B,C),c(D,f(E,E),f(F,F)),c(f(G,G),f(H,H),c(A,A,A)))";
        String right = "-p(c(f(X,X),f(Y,Y),f(Z,Z)),c(f(V,V),U,X),c(Y,Z,c(U,U,U)))";
        OppositePairs x = Check.told(left + "." + right + ".");
        Model model = new Model(left + "." + right + ".");
        Check.due("the model's", x.meets(0, 0, 1, 0), model.meets(0, 0, 1, 0) ? 1 : 0);
    }
}
