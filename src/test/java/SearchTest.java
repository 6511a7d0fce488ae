/** Promises 13 to 16 and 23: the search with its limits and options, and ANSWERS. */
public final class SearchTest {
    private static final int NONE = OppositePairs.NONE;
    private static final int REGULAR = 1;
    private static final int LEMMATA = 2;
    private static final int RESTRICTED = 4;
    /** A TERM of 39 parts and one of 40: with its NAME a LITERAL of 40 and one of 41. */
    private static final String FIT = "f(f(f(a,a,a),f(a,a,a),f(a,a,a)),f(f(a,a,a),f(a,a,a),f(a,a,a)),"
            + "f(f(a,a,a),f(a,a,a),f(a,a)))";
    private static final String GREAT = "f(f(f(a,a,a),f(a,a,a),f(a,a,a)),f(f(a,a,a),f(a,a,a),f(a,a,a)),"
            + "f(f(a,a,a),f(a,a,a),f(a,a,a)))";

    public static void main(String[] args) {
        wrongArguments();
        wrongArgumentsLeaveAll();
        depths();
        deepest();
        anyStart();
        regular();
        lemmata();
        restricted();
        greatLiterals();
        greatOnPath();
        thirtyInstances();
        givenUp();
        answersKept();
        answersAgain();
        Check.finish("SearchTest");
    }

    private static void tried(OppositePairs x, int tries, int longest, int cuts, int extensions) {
        Check.due("tried(0)", x.tried(0), tries);
        Check.due("tried(1)", x.tried(1), longest);
        Check.due("tried(2)", x.tried(2), cuts);
        Check.due("tried(3)", x.tried(3), extensions);
        Check.due("tried(4)", x.tried(4), NONE);
        Check.due("tried(-1)", x.tried(-1), NONE);
    }

    private static void wrongArguments() {
        OppositePairs x = Check.told("p. -p.");
        int[][] wrong = {{-1, 1, 0}, {2, 1, 0}, {0, -1, 0}, {0, 21, 0}, {0, 1, -1}, {0, 1, 8},
            {Integer.MIN_VALUE, 1, 0}, {0, Integer.MAX_VALUE, 0}, {0, 1, Integer.MAX_VALUE}};
        for (int[] w : wrong) {
            Check.due("solve", x.solve(w[0], w[1], w[2]), NONE);
            Check.due("deepen", x.deepen(w[0], w[1], w[2]), -3);
        }
        Check.due("any(-1, 0)", x.any(-1, 0), -3);
        Check.due("any(21, 0)", x.any(21, 0), -3);
        Check.due("any(0, -1)", x.any(0, -1), -3);
        Check.due("any(0, 8)", x.any(0, 8), -3);
        tried(x, 0, 0, 0, 0);
        Check.due("answer(-1, 0)", x.answer(-1, 0), 0);
        Check.due("solve(1, 20, 7)", x.solve(1, 20, 7), 1);
        Check.due("deepen(1, 20, 7)", x.deepen(1, 20, 7), 1);
        Check.due("any(20, 7)", x.any(20, 7), 0);
        OppositePairs none = new OppositePairs();
        Check.due("solve without CLAUSES", none.solve(0, 0, 0), NONE);
        Check.due("deepen without CLAUSES", none.deepen(0, 0, 0), -3);
        Check.due("any without CLAUSES", none.any(0, 0), NONE);
    }

    private static void wrongArgumentsLeaveAll() {
        OppositePairs x = Check.told("p|q. -p. -q.");
        Check.due("solve", x.solve(0, 1, 0), 1);
        Check.due("solve", x.solve(3, 1, 0), NONE);
        Check.due("deepen", x.deepen(3, 1, 0), -3);
        Check.due("any", x.any(1, 9), -3);
        Check.due("look(4)", x.look(4), 1);
        Check.due("step(-1, 0)", x.step(-1, 0), 2);
        tried(x, 2, 1, 0, 2);
        Check.due("any", x.any(0, 0), NONE);
        Check.due("look(4)", x.look(4), 0);
        Check.due("step(-1, 0)", x.step(-1, 0), NONE);
        tried(x, 0, 0, 0, 0);
    }

    private static void depths() {
        OppositePairs x = Check.told("a. -a|b. -b|c. -c.");
        Check.due("solve", x.solve(0, 2, 0), 0);
        tried(x, 2, 2, 0, 2);
        Check.due("solve", x.solve(0, 3, 0), 1);
        tried(x, 3, 3, 0, 3);
        Check.due("solve", x.solve(1, 1, 0), 0);
        tried(x, 2, 1, 0, 2);
        Check.due("solve", x.solve(1, 2, 0), 1);
        // A chain that needs all 20.
        StringBuilder chain = new StringBuilder("p(a). -p(X)|p(s(X)). -p(");
        OppositePairs y = Check.told(chain + "s(s(s(s(a))))).");
        Check.due("deepen", y.deepen(0, 20, 0), 5);
        Check.due("solve of none", Check.told("p(a). -p(X)|p(s(X)).").solve(0, 20, 0), 0);
        OppositePairs z = Check.told("p(a). -p(X)|p(s(X)).");
        Check.due("deepen of none", z.deepen(0, 20, 0), NONE);
        tried(z, 210, 20, 0, 210);
    }

    private static void deepest() {
        OppositePairs x = Check.told("p. -p|q|r. -q. -r|s. -s|-p.");
        Check.due("deepen(0, 2, 0)", x.deepen(0, 2, 0), NONE);
        Check.due("look(4)", x.look(4), 0);
        Check.due("deepen(0, 3, 0)", x.deepen(0, 3, 0), 3);
        Check.due("deepen(0, 20, 0)", x.deepen(0, 20, 0), 3);
        Check.due("look(4)", x.look(4), 1);
        Check.due("step(-1)", x.step(-1, 0), 5);
        Check.due("deepen(4, 20, 0)", x.deepen(4, 20, 0), 3);
    }

    private static void anyStart() {
        OppositePairs x = Check.told("a|b. c. -c|d. -d.");
        Check.due("any(0, 0)", x.any(0, 0), NONE);
        Check.due("any(1, 0)", x.any(1, 0), 2);
        tried(x, 3, 1, 0, 3);
        Check.due("any(2, 0)", x.any(2, 0), 1);
        Check.due("instance(0)", x.instance(0), 1);
        Check.due("instance(-1)", x.instance(-1), 3);
        Check.due("answer(-1)", x.answer(-1, 0), 0);
    }

    private static void regular() {
        OppositePairs x = Check.told("p. -p|q. -q|p. -q|r. -r.");
        Check.due("solve", x.solve(0, 3, 0), 1);
        tried(x, 5, 3, 0, 5);
        Check.due("solve", x.solve(0, 4, 0), 1);
        tried(x, 7, 4, 0, 7);
        Check.due("solve", x.solve(0, 4, REGULAR), 1);
        tried(x, 4, 3, 1, 4);
        // One that is left behind the first one is cut, too; also one that comes to be ALIKE by what is bound then.
        OppositePairs y = Check.told("p(a). -p(X)|q(Y)|p(Y). -q(a).");
        Check.due("solve", y.solve(0, 5, REGULAR), 0);
        tried(y, 2, 2, 1, 2);
        OppositePairs z = Check.told("p. -p|q|p. -q.");
        Check.due("solve", z.solve(0, 5, REGULAR), 0);
        tried(z, 1, 1, 1, 1);
        // One of 40 parts is cut, one of 41 fails only in its turn.
        String rules = "p(X). -p(Y)|-q(Y,W)|p(W). q(Z,Z)|-r(Z). r(";
        OppositePairs fit = Check.told(rules + FIT + ").");
        Check.due("solve", fit.solve(0, 5, REGULAR), 0);
        tried(fit, 3, 3, 1, 3);
        OppositePairs great = Check.told(rules + GREAT + ").");
        Check.due("solve", great.solve(0, 5, REGULAR), 0);
        tried(great, 3, 3, 0, 3);
    }

    private static void lemmata() {
        OppositePairs x = Check.told("p|q. -p|r. -r. -q|p.");
        Check.due("solve", x.solve(0, 3, 0), 1);
        Check.due("look(5)", x.look(5), 0);
        Check.due("look(7)", x.look(7), 5);
        Check.due("solve", x.solve(0, 3, LEMMATA), 1);
        tried(x, 3, 2, 0, 3);
        Check.due("look(5)", x.look(5), 1);
        Check.due("step(3, 3)", x.step(3, 3), 0);
        Check.due("step(3, 4)", x.step(3, 4), 0);
        // What was closed below is no LEMMA above.
        OppositePairs y = Check.told("p|r. -p|r. -r.");
        Check.due("solve", y.solve(0, 3, LEMMATA), 1);
        Check.due("look(5)", y.look(5), 0);
        Check.due("tried(0)", y.tried(0), 3);
        // The latest one, also one that was itself closed by a LEMMA.
        OppositePairs z = Check.told("p|p|p. -p.");
        Check.due("solve", z.solve(0, 1, LEMMATA), 1);
        Check.due("step(1, 4)", z.step(1, 4), 0);
        Check.due("step(2, 4)", z.step(2, 4), 1);
        Check.due("tried(0)", z.tried(0), 1);
        // A LEMMA binds nothing.
        OppositePairs v = Check.told("p(X)|p(Y). -p(a).");
        Check.due("solve", v.solve(0, 1, LEMMATA), 1);
        Check.due("look(5)", v.look(5), 0);
        // A VARIABLE is ALIKE no NAME.
        for (String name : new String[] {"bx", "x", "cx", "cxa"}) {
            OppositePairs w = Check.told("p(" + name + ")|p(X)|p(Y)|p(Z). -p(V).");
            Check.due("solve", w.solve(0, 1, LEMMATA), 1);
            Check.due("look(5)", w.look(5), 0);
        }
    }

    private static void restricted() {
        OppositePairs x = Check.told("p(X)|q(X). -p(a). -p(b). -q(b).");
        Check.due("solve", x.solve(0, 1, 0), 1);
        tried(x, 4, 1, 0, 3);
        Check.due("solve", x.solve(0, 1, RESTRICTED), 0);
        tried(x, 2, 1, 0, 1);
        // Ways of what an EXTENSION needs: fixed behind it, but another EXTENSION is tried if it fails.
        OppositePairs y = Check.told("p(X). -p(X)|q(X)|r(X). -q(a). -q(b). -r(b). -p(X)|r(X).");
        Check.due("solve", y.solve(0, 2, 0), 1);
        Check.due("instance(1)", y.instance(1), 1);
        Check.due("solve", y.solve(0, 2, RESTRICTED), 1);
        Check.due("instance(1)", y.instance(1), 5);
        Check.due("shown", Check.shown(y, 0, 0), "p(b)");
        OppositePairs z = Check.told("p(X)|s(X). -p(X)|q(X). -q(a). -q(b). -s(b).");
        Check.due("solve", z.solve(0, 2, 0), 1);
        Check.due("solve", z.solve(0, 2, RESTRICTED), 0);
        tried(z, 3, 2, 0, 2);
    }

    private static void greatLiterals() {
        OppositePairs x = Check.told("p(" + FIT + "). -p(X).");
        Check.due("parts", x.clause(0, 2), 40);
        Check.due("solve", x.solve(0, 1, 0), 1);
        OppositePairs y = Check.told("p(" + GREAT + "). -p(X).");
        Check.due("parts", y.clause(0, 2), 41);
        Check.due("solve", y.solve(0, 1, 0), 0);
        tried(y, 0, 0, 0, 0);
        // What closes another may be great.
        Check.due("solve", y.solve(1, 1, 0), 1);
        // What is bound counts.
        OppositePairs z = Check.told("p(X)|q(X). -p(" + GREAT + "). -q(X).");
        Check.due("solve", z.solve(0, 1, 0), 0);
        tried(z, 1, 1, 0, 1);
    }

    private static void greatOnPath() {
        String rules = "p(X). -p(Y)|-q(Y)|-p(Z). q(";
        OppositePairs x = Check.told(rules + FIT + ").");
        Check.due("solve", x.solve(0, 2, 0), 1);
        Check.due("look(6)", x.look(6), 1);
        Check.due("tried(0)", x.tried(0), 3);
        OppositePairs y = Check.told(rules + GREAT + ").");
        Check.due("solve", y.solve(0, 2, 0), 1);
        Check.due("look(6)", y.look(6), 0);
        Check.due("look(7)", y.look(7), 3);
        Check.due("tried(0)", y.tried(0), 3);
    }

    private static void thirtyInstances() {
        OppositePairs x = Check.told("a|a|a|a|c. -a|b|b|b|b|b. -c|b|b|b|b. -b.");
        Check.due("solve", x.solve(0, 2, 0), 1);
        Check.due("instance(-1)", x.instance(-1), 30);
        Check.due("instance(29)", x.instance(29), 3);
        Check.due("instance(30)", x.instance(30), NONE);
        tried(x, 29, 2, 0, 29);
        Check.due("closed(-1)", x.closed(-1), 1);
        OppositePairs y = Check.told("a|a|a|a|c. -a|b|b|b|b|b. -c|b|b|b|b|b. -b.");
        Check.due("solve", y.solve(0, 2, 0), 0);
        tried(y, 30, 2, 0, 29);
    }

    private static void givenUp() {
        OppositePairs x = Check.told("p(X,Y). -p(X,Y)|p(Y,X). -p(X,Y)|p(X,X). -p(X,Y)|p(Y,Y).");
        Check.due("solve", x.solve(0, 20, 0), -2);
        Check.due("tried(0)", x.tried(0), 1000);
        Check.due("look(4)", x.look(4), 0);
        Check.due("answer(0, 3)", x.answer(0, 3), -2);
        Check.due("deepen", x.deepen(0, 20, 0), -2);
        Check.due("tried(0)", x.tried(0), 1000);
        Check.due("any", x.any(20, 0), -2);
        Check.due("tried(0)", x.tried(0), 1000);
        // 3 + 9 + .. up to DEPTH 5 are 363, up to 6 they are 1092; deepened the last one comes behind 3 + 12 + .. 120.
        Check.due("solve", x.solve(0, 5, 0), 0);
        tried(x, 363, 5, 0, 363);
        Check.due("solve", x.solve(0, 6, 0), -2);
        Check.due("deepen", x.deepen(0, 5, 0), NONE);
        Check.due("tried(0)", x.tried(0), 3 + 12 + 39 + 120 + 363);
        Check.due("any", x.any(5, 0), -2);
        // Just 1000 are not too many; what would be one more is.
        OppositePairs y = Check.told("-r|p. r|r|-p. r|-r.");
        Check.due("solve", y.solve(0, 4, 0), 0);
        Check.due("tried(0)", y.tried(0), 1000);
        Check.due("any", y.any(4, 0), -2);
        Check.due("tried(0)", y.tried(0), 1000);
    }

    private static void answersKept() {
        OppositePairs x = Check.told("a. -a|b. -b.");
        for (int depth = 0; depth < 8; depth++) {
            x.solve(0, depth, depth % 8);
        }
        Check.due("answer(-1, 0)", x.answer(-1, 0), 8);
        answer(x, 0, 0, 0, 0, 0);
        answer(x, 1, 0, 1, 1, 0);
        answer(x, 7, 0, 7, 7, 1);
        Check.due("answer(8, 0)", x.answer(8, 0), NONE);
        Check.due("answer(-2, 0)", x.answer(-2, 0), NONE);
        Check.due("answer(0, 4)", x.answer(0, 4), NONE);
        Check.due("answer(0, -1)", x.answer(0, -1), NONE);
        x.solve(1, 0, 0);
        Check.due("answer(-1, 0)", x.answer(-1, 0), 8);
        answer(x, 0, 0, 1, 1, 0);
        answer(x, 7, 1, 0, 0, 0);
        x.solve(2, 0, 0);
        answer(x, 0, 0, 2, 2, 1);
        answer(x, 6, 1, 0, 0, 0);
        answer(x, 7, 2, 0, 0, 0);
        x.solve(1, 0, 0);
        answer(x, 6, 2, 0, 0, 0);
        Check.due("look(8)", x.look(8), 1);
        x.deepen(0, 3, 0);
        x.any(3, 0);
        x.solve(0, 3, 9);
        Check.due("answer(-1, 0)", x.answer(-1, 0), 8);
        answer(x, 7, 1, 0, 0, 0);
        Check.due("look(8)", x.look(8), 1);
        Check.due("drop(9)", x.drop(9), false);
        Check.due("answer(-1, 0)", x.answer(-1, 0), 8);
        Check.due("drop(2)", x.drop(2), true);
        Check.due("answer(-1, 0)", x.answer(-1, 0), 0);
        Check.due("answer(0, 0)", x.answer(0, 0), NONE);
    }

    private static void answer(OppositePairs x, int k, int start, int depth, int options, int found) {
        Check.due("answer 0", x.answer(k, 0), start);
        Check.due("answer 1", x.answer(k, 1), depth);
        Check.due("answer 2", x.answer(k, 2), options);
        Check.due("answer 3", x.answer(k, 3), found);
    }

    private static void answersAgain() {
        OppositePairs x = Check.told("a. -a|b. -b.");
        x.solve(0, 2, 0);
        x.solve(0, 1, 0);
        x.solve(0, 1, 1);
        Check.due("look(8)", x.look(8), 0);
        Check.due("solve", x.solve(0, 2, 0), 1);
        Check.due("look(8)", x.look(8), 1);
        // What was asked before is asked once more: there is its PROOF, and what it tried.
        Check.due("look(4)", x.look(4), 1);
        tried(x, 2, 2, 0, 2);
        Check.due("answer(-1, 0)", x.answer(-1, 0), 3);
        answer(x, 0, 0, 1, 0, 0);
        answer(x, 1, 0, 1, 1, 0);
        answer(x, 2, 0, 2, 0, 1);
        Check.due("solve", x.solve(0, 2, 0), 1);
        answer(x, 2, 0, 2, 0, 1);
        Check.due("look(8)", x.look(8), 2);
        for (int depth = 3; depth < 11; depth++) {
            x.solve(0, depth, 0);
        }
        Check.due("solve", x.solve(0, 2, 0), 1);
        Check.due("look(8)", x.look(8), 2);
        Check.due("solve", x.solve(0, 4, 0), 1);
        Check.due("look(8)", x.look(8), 3);
        answer(x, 0, 0, 5, 0, 1);
        Check.due("clauses", Check.tell(x, "a. -a."), 2);
        Check.due("look(8) stays", x.look(8), 3);
    }
}
