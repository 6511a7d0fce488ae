/** Promises 17 to 22 and the rest of 24: THE PROOF as steps and INSTANCES, and THE MATRIX. */
public final class ProofTest {
    private static final int NONE = OppositePairs.NONE;

    public static void main(String[] args) {
        withoutProof();
        steps();
        instances();
        texts();
        longTexts();
        matrix();
        openWays();
        untold();
        greatLiterals();
        justGreat();
        anotherProof();
        manySteps();
        proofGoes();
        Check.finish("ProofTest");
    }

    private static void withoutProof() {
        OppositePairs x = Check.told("p. -p|q.");
        Check.due("solve", x.solve(0, 5, 0), 0);
        Check.due("step(-1, 0)", x.step(-1, 0), NONE);
        Check.due("step(0, 0)", x.step(0, 0), NONE);
        Check.due("instance(-1)", x.instance(-1), NONE);
        Check.due("instance(0)", x.instance(0), NONE);
        Check.due("shown(0, 0)", x.shown(0, 0), NONE);
        Check.due("closed(-1)", x.closed(-1), NONE);
        Check.due("closed(0)", x.closed(0), NONE);
        Check.due("open(0, 1)", x.open(0, 1), NONE);
        Check.due("needed()", x.needed(), 0);
        for (int what = 4; what <= 7; what++) {
            Check.due("look", x.look(what), 0);
        }
    }

    private static void step(OppositePairs x, int i, int[] want) {
        for (int what = 0; what < want.length; what++) {
            Check.due("step(" + i + ", " + what + ")", x.step(i, what), want[what]);
        }
    }

    private static void steps() {
        OppositePairs x = Check.told("p|q. -p|r. -r|-p. -q|p.");
        Check.due("solve", x.solve(0, 3, 2), 1);
        Check.due("step(-1, 0)", x.step(-1, 0), 5);
        step(x, 0, new int[] {3, 0, 0, 1, 0, 0});
        step(x, 1, new int[] {3, 1, 1, 2, 0, 1});
        step(x, 2, new int[] {2, 2, 1, 0, 0, 2});
        step(x, 3, new int[] {3, 0, 1, 3, 0, 0});
        step(x, 4, new int[] {1, 3, 1, 0, 0, 1});
        Check.due("step(0, 6)", x.step(0, 6), NONE);
        Check.due("step(0, -1)", x.step(0, -1), NONE);
        Check.due("step(5, 0)", x.step(5, 0), NONE);
        Check.due("step(-2, 0)", x.step(-2, 0), NONE);
        Check.due("step(MAX, 0)", x.step(Integer.MAX_VALUE, 0), NONE);
        Check.due("look(4)", x.look(4), 1);
        Check.due("look(5)", x.look(5), 1);
        Check.due("look(6)", x.look(6), 1);
        Check.due("look(7)", x.look(7), 3);
        // The latest LITERAL of the PATH comes first, and ways that failed leave nothing behind.
        OppositePairs y = Check.told("p(a). -p(X)|p(b)|q. -p(b)|r(Y)|s. -r(Z)|-p(Z). -q. -s|-p(Z).");
        Check.due("solve", y.solve(0, 4, 1), 1);
        int steps = y.step(-1, 0);
        Check.due("step of the REDUCTION", y.step(3, 0), 2);
        Check.due("by the latest", y.step(3, 3), 1);
        Check.due("by the latest", y.step(3, 4), 1);
        Check.due("instances and steps", y.look(5) + y.look(6) + y.look(7), steps);
        Check.due("instances", y.instance(-1), y.look(7) + 1);
    }

    private static void instances() {
        OppositePairs x = Check.told("-e(c,a). -e(X,Y)|-e(Y,Z)|e(X,Z). e(a,b). e(c,b). e(b,a).");
        Check.due("deepen", x.deepen(0, 5, 0), 2);
        Check.due("instance(-1)", x.instance(-1), 4);
        int[] clauses = {0, 1, 3, 4};
        for (int i = 0; i < clauses.length; i++) {
            Check.due("instance", x.instance(i), clauses[i]);
        }
        Check.due("instance(4)", x.instance(4), NONE);
        Check.due("instance(-2)", x.instance(-2), NONE);
        Check.due("shown", Check.shown(x, 1, 0), "-e(c,b)");
        Check.due("shown", Check.shown(x, 1, 1), "-e(b,a)");
        Check.due("shown", Check.shown(x, 1, 2), "e(c,a)");
        Check.due("shown(1, 3)", x.shown(1, 3), NONE);
        Check.due("shown(1, -1)", x.shown(1, -1), NONE);
        Check.due("shown(-1, 0)", x.shown(-1, 0), NONE);
        Check.due("shown(4, 0)", x.shown(4, 0), NONE);
        Check.due("what was SHOWN stays", Check.out(x), "e(c,a)");
    }

    private static void texts() {
        // Of two VARIABLES that of the LITERAL that is closed is bound to the other one.
        OppositePairs x = Check.told("p(X,Y,f(Z)). -p(A,B,C)|q(A)|q(W). -q(V).");
        Check.due("solve", x.solve(0, 2, 0), 1);
        Check.due("shown", Check.shown(x, 0, 0), "p(V2,B1,f(Z0))");
        Check.due("shown", Check.shown(x, 1, 0), "-p(V2,B1,f(Z0))");
        Check.due("shown", Check.shown(x, 1, 2), "q(V3)");
        // Told once more, X goes to Y and Y on to Z: all are one.
        OppositePairs y = Check.told("p(X,X,W). -p(Y,Z,Z).");
        Check.due("solve", y.solve(0, 1, 0), 1);
        Check.due("shown", Check.shown(y, 0, 0), "p(Z1,Z1,Z1)");
        Check.due("shown", Check.shown(y, 1, 0), "-p(Z1,Z1,Z1)");
        // INSTANCES of two digits.
        OppositePairs z = Check.told("a|a|a|a|a|b. -a|-c. c. -b|d(X). -d(Y).");
        Check.due("solve", z.solve(0, 2, 0), 1);
        Check.due("shown", Check.shown(z, 11, 1), "d(Y12)");
        // A REDUCTION: the LITERAL that is closed is the first one, too.
        OppositePairs v = Check.told("p(X). -p(Y)|-p(Z).");
        Check.due("solve", v.solve(0, 1, 0), 1);
        Check.due("look(6)", v.look(6), 1);
        Check.due("shown", Check.shown(v, 1, 1), "-p(Y1)");
    }

    private static void longTexts() {
        String name = "abcdefgh";
        String eight = "f(" + name + "," + name + "," + name + ")";
        OppositePairs x = Check.told("d(A,B)|d(B,C)|e(C). -d(f(X,X,X),X). -e(" + eight + ").");
        Check.due("solve", x.solve(0, 1, 0), 1);
        String three = "f(" + eight + "," + eight + "," + eight + ")";
        Check.due("shown", Check.shown(x, 0, 1), "d(" + three + "," + eight + ")");
        Check.due("too long", x.shown(0, 0), NONE);
        Check.due("what was SHOWN stays", Check.out(x), "d(" + three + "," + eight + ")");
        // 300 just fit, 301 do not: n is the length of the NAME at the end.
        for (int n = 1; n <= 8; n++) {
            edge(n);
        }
    }

    /** What is put in makes a LITERAL of 293 bytes and a NAME of n letters. */
    private static void edge(int n) {
        String leaf = "f(abcdefgh,abcdefgh,abcdefgh)";
        String rest = "h(" + leaf + "," + leaf + "," + "a".repeat(8) + ")";
        String last = "iiiiiii(" + leaf + "," + "b".repeat(8) + "," + "abcdefgh".substring(0, n) + ")";
        String want = "pppppppp(hhhhhhhh(" + rest + "," + rest + "," + rest + ")," + last + ",kkkkkkkk)";
        Check.due("its length", want.length(), 293 + n);
        String start = "pppppppp(hhhhhhhh(R,R,R),S,kkkkkkkk)|q(R)|r(S).";
        OppositePairs y = Check.told(start + "-pppppppp(X,Y,K).-q(" + rest + ").-r(" + last + ").");
        Check.due("solve", y.solve(0, 1, 0), 1);
        Check.due("shown", Check.shown(y, 0, 0), n > 7 ? "none" : want);
    }

    private static void matrix() {
        OppositePairs x = Check.told("p|q. -p|q. p|-q. -p|-q.");
        Check.due("deepen", x.deepen(0, 6, 3), 2);
        Check.due("closed(-1)", x.closed(-1), 1);
        Check.due("closed(-2)", x.closed(-2), NONE);
        Check.due("closed(MAX)", x.closed(Integer.MAX_VALUE), NONE);
        Check.due("closed(n)", x.closed(x.instance(-1)), NONE);
        int needed = 0;
        for (int i = 0; i < x.instance(-1); i++) {
            needed |= x.closed(i) == 0 ? 1 << i : 0;
        }
        Check.due("needed()", x.needed(), needed);
        // What is there twice is not needed.
        OppositePairs y = Check.told("p|p|q. -p. -q.");
        Check.due("solve", y.solve(0, 1, 0), 1);
        Check.due("instance(-1)", y.instance(-1), 4);
        Check.due("closed(1)", y.closed(1), 1);
        Check.due("closed(2)", y.closed(2), 1);
        Check.due("closed(3)", y.closed(3), 0);
        Check.due("needed()", y.needed(), 1 + 8);
    }

    private static void openWays() {
        OppositePairs x = Check.told("p|q. -p|r. -r. -q.");
        Check.due("solve", x.solve(0, 2, 0), 1);
        Check.due("instance(2)", x.instance(2), 2);
        Check.due("instance(3)", x.instance(3), 3);
        way(x, 0, new int[] {NONE, 0, 0, 0});
        way(x, 1, new int[] {0, NONE, 0, 0});
        way(x, 2, new int[] {0, 1, NONE, 0});
        way(x, 3, new int[] {1, 0, 0, NONE});
        Check.due("needed()", x.needed(), 15);
        Check.due("open(0, 0)", x.open(0, 0), NONE);
        Check.due("open(0, 4)", x.open(0, 4), NONE);
        Check.due("open(0, -1)", x.open(0, -1), NONE);
        Check.due("open(4, 0)", x.open(4, 0), NONE);
        Check.due("open(-1, 0)", x.open(-1, 0), NONE);
        Check.due("open(MIN, MAX)", x.open(Integer.MIN_VALUE, Integer.MAX_VALUE), NONE);
        OppositePairs y = Check.told("p|p. -p.");
        Check.due("solve", y.solve(0, 1, 0), 1);
        Check.due("no OPEN one", y.open(1, 0), NONE);
        Check.due("an OPEN one", y.open(0, 1), 0);
    }

    private static void way(OppositePairs x, int without, int[] want) {
        Check.due("closed", x.closed(without), 0);
        for (int k = 0; k < want.length; k++) {
            Check.due("open(" + without + ", " + k + ")", x.open(without, k), want[k]);
        }
    }

    /**
     * A START a|b|c|d|e|f; each of them closed by a CLAUSE that has it so many times with "-" (closed by REDUCTION, and
     * OPEN when another one of the START is on the way), so many others that are closed by one of their own each, and
     * so many that are closed by one that needs one more.
     */
    private static String wide(int[]... counts) {
        StringBuilder text = new StringBuilder("a|b|c|d|e|f.");
        for (int j = 0; j < counts.length; j++) {
            char name = (char) ('a' + j);
            String row = ("|-" + name).repeat(counts[j][0]) + ("|x" + name).repeat(counts[j][1])
                    + ("|w" + name).repeat(counts[j][2]);
            text.append(row.substring(1)).append(".");
            text.append(counts[j][1] > 0 ? "-x" + name + "." : "");
            text.append(counts[j][2] > 0 ? "-w" + name + "|y" + name + ".-y" + name + "." : "");
        }
        return text.toString();
    }

    private static void untold() {
        // Just 20000 LOOKS with all INSTANCES, one more of the next one, some 56000 of the last one.
        untold(wide(new int[] {5, 0, 1}, new int[] {2, 1, 0}, new int[] {5, 0, 0}, new int[] {6, 0, 0},
                new int[] {3, 2, 1}, new int[] {4, 1, 0}), 1);
        untold(wide(new int[] {5, 0, 0}, new int[] {3, 3, 0}, new int[] {4, 1, 0}, new int[] {5, 0, 1},
                new int[] {3, 0, 1}, new int[] {2, 3, 0}), -2);
        int[] most = {6, 0, 0};
        untold(wide(most, most, most, most, most, most), -2);
    }

    private static void untold(String text, int want) {
        OppositePairs x = Check.told(text);
        Model model = new Model(text);
        Check.due("solve", x.solve(0, 3, 0), model.solve(0, 3, 0));
        Check.due("closed(-1)", x.closed(-1), want);
        Check.due("closed(-1)", x.closed(-1), model.closed(-1));
        int needed = 0;
        for (int i = 0; i < x.instance(-1); i++) {
            int closed = model.closed(i);
            needed |= closed == 0 ? 1 << i : 0;
            Check.due("closed(" + i + ")", x.closed(i), closed);
            for (int k = 0; k < x.instance(-1); k++) {
                Check.due("open(" + i + ", " + k + ")", x.open(i, k), closed == 0 ? model.way[k] : NONE);
            }
        }
        Check.due("needed()", x.needed(), needed);
    }

    /** d(A,B) comes to have more than 2000 parts: it is ALIKE none, though it was closed. */
    private static void greatLiterals() {
        String text = "d(A,B)|d(B,C)|d(C,D)|d(D,E)|d(E,F)|e(F). -e(F)|d(F,G)|d(G,H). -d(f(X,X,X),X).";
        OppositePairs x = Check.told(text);
        Check.due("solve", x.solve(0, 2, 0), 1);
        Check.due("closed(-1)", x.closed(-1), 0);
        Check.due("shown(0, 0)", x.shown(0, 0), NONE);
        Model model = new Model(text);
        Check.due("model", model.solve(0, 2, 0), 1);
        for (int i = -1; i < x.instance(-1); i++) {
            Check.due("closed", x.closed(i), model.closed(i));
        }
        OppositePairs y = Check.told(text.replace("|d(G,H)", ""));
        Check.due("solve", y.solve(0, 2, 0), 1);
        Check.due("closed(-1)", y.closed(-1), 1);
        Check.due("closed(1)", y.closed(1), 0);
        Check.due("shown(0, 0)", y.shown(0, 0), NONE);
        Check.due("shown", Check.shown(y, 0, 4), "d(f(f(G6,G6,G6),f(G6,G6,G6),f(G6,G6,G6)),f(G6,G6,G6))".replace("G6", "X7"));
    }

    /** q(A) comes to have 2000 parts, d(A,B) still more: the first OPEN way has the second one, with 2001 the first. */
    private static void justGreat() {
        String great = "f(f(f(a,a,a),f(a,a,a),f(a,a,a)),f(f(a,a,a),f(a,a,a),f(a,a,a)),f(f(a,a,a),f(a,a,a),f(a,a,a)))";
        String rules = "|d(A,B)|d(B,C)|d(C,D)|d(D,E)|e(E). -d(g(X,X),X). -e(h(F,F,F))|-n(F). n(i(" + great + ")). ";
        OppositePairs x = Check.told("q(A)" + rules + "-q(X).");
        Check.due("solve", x.solve(0, 2, 0), 1);
        int last = x.instance(-1) - 1;
        Check.due("open", x.open(last, 0), 1);
        OppositePairs y = Check.told("q(A,k)" + rules + "-q(X,k).");
        Check.due("solve", y.solve(0, 2, 0), 1);
        Check.due("open", y.open(last, 0), 0);
    }

    /** What was found of one PROOF does not stand for the next one. */
    private static void anotherProof() {
        OppositePairs x = Check.told("p|p. -p. p|q. -q.");
        Check.due("solve", x.solve(0, 1, 0), 1);
        Check.due("closed(1)", x.closed(1), 1);
        Check.due("solve", x.solve(2, 1, 0), 1);
        Check.due("closed(1)", x.closed(1), 0);
        Check.due("solve", x.solve(0, 1, 0), 1);
        Check.due("closed(1)", x.closed(1), 1);
        Check.due("deepen", x.deepen(2, 1, 0), 1);
        Check.due("closed(1)", x.closed(1), 0);
        Check.due("any", x.any(1, 0), 0);
        Check.due("closed(1)", x.closed(1), 1);
    }

    /** Thirty INSTANCES of six LITERALS, nearly all of which are closed by steps of their own. */
    private static void manySteps() {
        String text = "a|b|a|b|a|b. -a|-a|-a|-a|-a|a. -b|-b|-b|-b|-b|b. -a. -b.";
        OppositePairs x = Check.told(text);
        Model model = new Model(text);
        Check.due("solve", x.solve(0, 20, 6), model.solve(0, 20, 6));
        Check.due("steps", x.step(-1, 0), model.proof.steps().size());
        Check.due("many", x.step(-1, 0) > 130, true);
        Check.due("instances", x.instance(-1), 30);
        for (int i = 0; i < x.step(-1, 0); i++) {
            Model.Step want = model.proof.steps().get(i);
            step(x, i, new int[] {want.kind(), want.goal().instance(), want.goal().literal(), want.by().instance(),
                want.by().literal(), want.path()});
        }
        Check.due("closed(-1)", x.closed(-1), model.closed(-1));
    }

    private static void proofGoes() {
        OppositePairs x = Check.told("p. -p. q.");
        Check.due("solve", x.solve(0, 1, 0), 1);
        Check.due("show", x.show(0, 0), 1);
        Check.due("feed", x.feed(0, 0, 0, 0, 0), 20);
        Check.due("end", x.end(0), true);
        Check.due("look(4)", x.look(4), 1);
        Check.due("drop(3)", x.drop(3), false);
        Check.due("look(4)", x.look(4), 1);
        Check.due("drop(2)", x.drop(2), true);
        Check.due("look(4)", x.look(4), 0);
        Check.due("closed(-1)", x.closed(-1), NONE);
        Check.due("deepen", x.deepen(0, 3, 0), 1);
        Check.due("closed(0)", x.closed(0), 0);
        Check.due("any", x.any(0, 0), NONE);
        Check.due("closed(0)", x.closed(0), NONE);
        Check.due("solve", x.solve(1, 1, 0), 1);
        Check.due("instance(0)", x.instance(0), 1);
        Check.due("clauses", x.clauses(), 0);
        Check.due("look(4)", x.look(4), 0);
        Check.due("instance(0)", x.instance(0), NONE);
        Check.due("shown(0, 0)", x.shown(0, 0), NONE);
        Check.due("what was SHOWN stays", Check.out(x), "p");
    }
}
