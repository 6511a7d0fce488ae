/** Promises 17 to 22 and 24 and the third part of the Terms, each sentence with a boundary: inside, outside, what stays. */
public final class ProofEdgesTest {
    private static final int NONE = OppositePairs.NONE;
    private static final int MIN = Integer.MIN_VALUE;
    private static final int MAX = Integer.MAX_VALUE;
    private static final int[] FAR = {MIN, MIN + 1, -3, -2, 16, 30, 31, 180, MAX};
    private static final String THIRTY = "a|a|a|a|c(X). -a|b|b|b|b|b. -c(Y)|b|b|b|d(Y,Z). -b. -d(V,W).";
    /** A matrix with ways that are closed after 20000 LOOKS, with all INSTANCES; and one after 20001. */
    private static final String JUST_TOLD = "a|b|c|d|e|f.-a|-a|-a|-a|-a|wa.-wa|ya.-ya.-b|-b|xb.-xb.-c|-c|-c|-c|-c."
            + "-d|-d|-d|-d|-d|-d.-e|-e|-e|xe|xe|we.-xe.-we|ye.-ye.-f|-f|-f|-f|xf.-xf.";
    private static final String JUST_UNTOLD = "a|b|c|d|e|f.-a|-a|-a|-a|-a.-b|-b|-b|xb|xb|xb.-xb.-c|-c|-c|-c|xc.-xc."
            + "-d|-d|-d|-d|-d|wd.-wd|yd.-yd.-e|-e|-e|we.-we|ye.-ye.-f|-f|xf|xf|xf.-xf.";
    /** Without INSTANCE 8 the first OPEN way ends with the 20000th LOOK; with one INSTANCE more with the 20001st. */
    private static final String LATE = "a|b|c|d|e|g.-a|-a|-a|-a|-a.-b|-b|-b|-b|xb.-xb|-xb|-xb.-c|-c|-c|xc.-xc|-xc|-xc."
            + "-d|-d|-d|-d.-e|-e|-e|-e|-e|-e.-g|zb.-zb|zc.-zc";

    public static void main(String[] args) {
        stepsAsClosed();
        stepsNumbered();
        stepRefused();
        instancesNumbered();
        instanceRefused();
        shownWithNumbers();
        shownUpToThreeHundred();
        shownRefused();
        closedTells();
        closedRefused();
        twoThousandParts();
        twentyThousandLooks();
        twentyThousandLooksWithoutOne();
        anOpenWayWithTheLastLook();
        openTellsTheFirst();
        openRefused();
        neededBits();
        neededWithout();
        lookTells();
        lookOfTheProof();
        lookRefused();
        theLastOfItsCalls();
        Check.finish("ProofEdgesTest");
    }

    private static OppositePairs solved(String text, int depth, int options) {
        OppositePairs x = Check.told(text);
        Check.due("solve of " + text, x.solve(0, depth, options), 1);
        return x;
    }

    private static void step(OppositePairs x, int i, int... want) {
        for (int what = 0; what < 6; what++) {
            Check.due("step(" + i + ", " + what + ")", x.step(i, what), want[what]);
        }
    }

    // ---- Promise 17: step

    /** "as its LITERALS were closed: an EXTENSION's ahead of those of its INSTANCE"; kinds 1, 2, 3 */
    private static void stepsAsClosed() {
        OppositePairs x = solved("p|q. -p|r|-p. -r. -q|p.", 2, 2);
        Check.due("how many", x.step(NONE, 0), 5);
        step(x, 0, 3, 0, 0, 1, 0, 0);
        step(x, 1, 3, 1, 1, 2, 0, 1);
        step(x, 2, 2, 1, 2, 0, 0, 1);
        step(x, 3, 3, 0, 1, 3, 0, 0);
        step(x, 4, 1, 3, 1, 0, 0, 1);
        // The least that a PROOF can be.
        OppositePairs y = solved("p. -p.", 1, 0);
        Check.due("how many", y.step(NONE, 0), 1);
        step(y, 0, 3, 0, 0, 1, 0, 0);
        Check.due("step(1, 0)", y.step(1, 0), NONE);
    }

    /** "i-th step", "i NONE: how many steps": many of them */
    private static void stepsNumbered() {
        OppositePairs x = solved(THIRTY, 2, 0);
        Check.due("how many", x.step(NONE, 0), 29);
        for (int i = 0; i < 29; i++) {
            Check.due("each an EXTENSION", x.step(i, 0), 3);
            Check.due("by the next INSTANCE", x.step(i, 3), i + 1);
        }
        step(x, 28, 3, 25, 4, 29, 0, 1);
        Check.due("step(29, 0)", x.step(29, 0), NONE);
        // More steps than INSTANCES.
        OppositePairs many = solved("a|a|a|a|a|a. -a|-a|-a|-a|-a|-a.", 1, 0);
        Check.due("how many", many.step(NONE, 0), 36);
        step(many, 35, 2, 6, 5, 0, 5, 1);
        Check.due("step(36, 0)", many.step(36, 0), NONE);
    }

    /** "NONE if there is none such, no PROOF, or another what." */
    private static void stepRefused() {
        for (int i : FAR) {
            Eye.refused("step(" + i + ", 0)", TapeEdgesTest::rich, x -> x.step(i, 0), NONE);
        }
        Eye.refused("step(4, 0)", TapeEdgesTest::rich, x -> x.step(4, 0), NONE);
        Check.due("step(3, 0)", TapeEdgesTest.rich().step(3, 0), 3);
        for (int what : new int[] {-1, 6, 7, MIN, MAX}) {
            Eye.refused("step(0, " + what + ")", TapeEdgesTest::rich, x -> x.step(0, what), NONE);
        }
        OppositePairs none = Check.told("p. -p.");
        for (int i = -1; i < 3; i++) {
            Check.due("without a PROOF", none.step(i, 0), NONE);
            Check.due("without a PROOF", none.instance(i), NONE);
            Check.due("without a PROOF", none.closed(i), NONE);
            Check.due("without a PROOF", none.shown(i, 0), NONE);
            Check.due("without a PROOF", none.open(i, 1 - i), NONE);
        }
    }

    // ---- Promise 18: instance

    /** "Of THE PROOF's INSTANCE i its CLAUSE; i NONE: how many" */
    private static void instancesNumbered() {
        OppositePairs x = solved(THIRTY, 2, 0);
        Check.due("how many", x.instance(NONE), 30);
        Check.due("the START", x.instance(0), 0);
        Check.due("the first", x.instance(1), 1);
        Check.due("the last", x.instance(29), 4);
        Check.due("none behind it", x.instance(30), NONE);
        Check.due("the START's CLAUSE", solvedFrom(15), 15);
        OppositePairs y = solved("p. -p.", 1, 0);
        Check.due("the least", y.instance(NONE), 2);
        Check.due("none behind it", y.instance(2), NONE);
    }

    private static int solvedFrom(int start) {
        OppositePairs x = Check.told("-p.".repeat(15) + "p.");
        Check.due("solve", x.solve(start, 1, 0), 1);
        return x.instance(0);
    }

    /** "NONE if there is none such, or no PROOF." */
    private static void instanceRefused() {
        for (int i : FAR) {
            Eye.refused("instance(" + i + ")", TapeEdgesTest::rich, x -> x.instance(i), NONE);
        }
        Eye.refused("instance(4)", TapeEdgesTest::rich, x -> x.instance(4), NONE);
        Check.due("instance(3)", TapeEdgesTest.rich().instance(3), 3);
    }

    // ---- Promise 19: shown

    /** "a VARIABLE that is not bound as its letter (the one told) and its INSTANCE's number" */
    private static void shownWithNumbers() {
        OppositePairs x = solved(THIRTY, 2, 0);
        Check.due("of the last one", Check.shown(x, 29, 0), "-d(V29,W29)");
        Check.due("bound to the last one", Check.shown(x, 25, 4), "d(V29,W29)");
        Check.due("bound over two", Check.shown(x, 0, 4), "c(V29)");
        OppositePairs y = solved("p(A,Z)|p(A,Z)|p(A,Z)|p(A,Z)|p(A,Z)|q(M). -p(X,Y)|-r(W). r(V). -q(N)|s(N,O). -s(P,Q).", 2, 0);
        Check.due("of one digit", Check.shown(y, 9, 1), "-r(V10)");
        Check.due("of two digits", Check.shown(y, 11, 1), "s(P12,Q12)");
        OppositePairs z = solved("p(X). -p(f(Y)).", 1, 0);
        Check.due("INSTANCE 1", Check.shown(z, 0, 0), "p(f(Y1))");
        OppositePairs w = solved("p(f(X)). -p(Y).", 1, 0);
        Check.due("INSTANCE 0", Check.shown(w, 1, 0), "-p(f(X0))");
    }

    /** A LITERAL that comes to have so many bytes, 296 to 303, when A is bound behind it. */
    private static OppositePairs ofLength(int bytes) {
        String leaf = "f(abcdefgh,abcdefgh,abcdefgh)";
        String told = "-p(g(A,A,A),g(A,A,A),g(A,A,h(" + leaf + ",bbbbbbbb," + "abcdefgh".substring(0, bytes - 295) + ")))";
        Check.due("its length", told.replace("A", leaf).length(), bytes);
        OppositePairs x = solved(told + "|q(A). p(X,Y,Z). -q(" + leaf + ").", 1, 0);
        if (bytes <= 300) {
            Check.due("shown", Check.shown(x, 0, 0), told.replace("A", leaf));
        }
        return x;
    }

    /** "NONE (what was SHOWN stays) if there would be more than 300" */
    private static void shownUpToThreeHundred() {
        for (int bytes = 296; bytes <= 303; bytes++) {
            OppositePairs x = ofLength(bytes);
            Check.due("show", x.show(1, 0), 8);
            Check.due("shown of " + bytes, x.shown(0, 0), bytes > 300 ? NONE : bytes);
            Check.due("SHOWN then", Check.out(x).length(), bytes > 300 ? 8 : bytes);
            Check.due("SHOWN then", Check.out(x).startsWith(bytes > 300 ? "p(X,Y,Z)" : "-p(g(f(abcdefgh,"), true);
        }
        // As it was told it may have more.
        String leaf = "ffffffff(abcdefgh,abcdefgh,abcdefgh)";
        String node = "gggggggg(" + leaf + "," + leaf + "," + leaf + ")";
        String told = "p(" + node + "," + node + ",hhhhhhhh(" + leaf + "," + leaf + "))";
        OppositePairs y = solved(told + ". -p(X,Y,Z).", 1, 0);
        Check.due("show", y.show(0, 0), 328);
        Check.due("shown", y.shown(0, 0), NONE);
        Check.due("shown", y.shown(1, 0), NONE);
        Check.due("SHOWN then", Check.out(y), told);
        // What has no end in sight is refused as well: 3 to the 7th parts.
        OppositePairs far = solved("d(A,B)|d(B,C)|d(C,D)|d(D,E)|d(E,F)|e(F). -e(F)|d(F,G)|d(G,H). -d(f(X,X,X),X).", 2, 0);
        Check.due("show", far.show(1, 0), 5);
        Check.due("shown", far.shown(0, 0), NONE);
        Check.due("SHOWN then", Check.out(far), "-e(F)");
    }

    /** "NONE (what was SHOWN stays) if there is none such" */
    private static void shownRefused() {
        int[][] wrong = {{-1, 0}, {-2, 0}, {4, 0}, {30, 0}, {MIN, 0}, {MAX, 0}, {0, -1}, {0, 2}, {0, 6}, {3, 1}, {0, MIN},
            {0, MAX}};
        for (int[] w : wrong) {
            Eye.refused("shown(" + w[0] + ", " + w[1] + ")", TapeEdgesTest::rich, x -> x.shown(w[0], w[1]), NONE);
        }
        OppositePairs x = TapeEdgesTest.rich();
        Check.due("the last one", Check.shown(x, 3, 0), "-r");
        Check.due("none behind it", x.shown(3, 1), NONE);
        Check.due("SHOWN then", Check.out(x), "-r");
    }

    // ---- Promise 20 and the Terms: THE MATRIX

    /** "Whether no way through THE MATRIX without INSTANCE i (NONE: with all) is OPEN (1, 0)." */
    private static void closedTells() {
        OppositePairs x = solved("p|p|q. -p. -q.", 1, 0);
        int[] want = {1, 0, 1, 1, 0, NONE};
        for (int i = -1; i < 5; i++) {
            Check.due("closed(" + i + ")", x.closed(i), want[i + 1]);
        }
        // Two that are OPPOSITE but not ALIKE do not close: by a NAME, by VARIABLES that are not bound.
        OppositePairs y = solved("p(a)|p(b). -p(a). -p(b).", 1, 0);
        Check.due("closed(NONE)", y.closed(NONE), 1);
        Check.due("p(a) and -p(b)", y.closed(1), 0);
        Check.due("p(b) and -p(a)", y.closed(2), 0);
        OppositePairs v = solved("p(X)|p(Y). -p(U).", 1, 0);
        Check.due("closed(NONE)", v.closed(NONE), 1);
        Check.due("p(U1) and -p(U2)", v.closed(1), 0);
        Check.due("p(U2) and -p(U1)", v.closed(2), 0);
        OppositePairs z = solved("p(X)|q(X). -p(Y). -q(a).", 1, 0);
        Check.due("closed(NONE)", z.closed(NONE), 1);
        Check.due("closed(1)", z.closed(1), 0);
        // The last of thirty.
        OppositePairs w = solved(THIRTY, 2, 4);
        Check.due("closed(29)", w.closed(29) != NONE, true);
        Check.due("closed(30)", w.closed(30), NONE);
    }

    /** "NONE if there is none such, or no PROOF." */
    private static void closedRefused() {
        for (int i : FAR) {
            Eye.refused("closed(" + i + ")", TapeEdgesTest::rich, x -> x.closed(i), NONE);
        }
        Eye.refused("closed(4)", TapeEdgesTest::rich, x -> x.closed(4), NONE);
        Eye.refused("closed(3)", TapeEdgesTest::rich, x -> x.closed(3), 0);
        Eye.refused("closed(NONE)", TapeEdgesTest::rich, x -> x.closed(NONE), 1);
    }

    /** "a LITERAL of more than 2000 parts is ALIKE none" */
    private static void twoThousandParts() {
        String great = "f(f(f(a,a,a),f(a,a,a),f(a,a,a)),f(f(a,a,a),f(a,a,a),f(a,a,a)),f(f(a,a,a),f(a,a,a),f(a,a,a)))";
        String rules = "|r(A). -r(g(X,X))|s(X). -s(g(Y,Y))|t(Y). -t(g(Z,Z))|u(Z). -u(g(W,W))|v(W). -v(h(F,F,F))|w(F)."
                + "-w(i(" + great + ")).";
        // F has 41 parts, W 124, Z 249, Y 499, X 999, A 1999.
        OppositePairs x = solved("q(A)" + rules + "-q(V).", 6, 0);
        Check.due("of 2000 parts", x.closed(NONE), 1);
        Check.due("all are needed", x.needed(), 255);
        OppositePairs y = solved("q(A,k)" + rules + "-q(V,k).", 6, 0);
        Check.due("of 2001 parts", y.closed(NONE), 0);
        Check.due("still all", y.needed(), 255);
        for (int i = 0; i < 8; i++) {
            for (int k = 0; k < 8; k++) {
                Check.due("open(" + i + ", " + k + ")", y.open(i, k), i == k ? NONE : 0);
            }
        }
        // With all it is OPEN, but open() names an INSTANCE that is left out.
        Check.due("open(NONE, 0)", y.open(NONE, 0), NONE);
        Check.due("shown of them", y.shown(0, 0), NONE);
    }

    /** "each LITERAL that is looked at so is a LOOK; with what would be the 20001st it ends untold" */
    private static void twentyThousandLooks() {
        OppositePairs x = solved(JUST_TOLD, 3, 0);
        Check.due("20000 LOOKS", x.closed(NONE), 1);
        OppositePairs y = solved(JUST_UNTOLD, 3, 0);
        Check.due("20001 LOOKS", y.closed(NONE), -2);
        Check.due("once more", y.closed(NONE), -2);
        Check.due("it has its own", y.closed(0), 0);
    }

    /** The same without an INSTANCE; needed(): "(one that ends untold is none)"; open(): NONE if "it ends untold" */
    private static void twentyThousandLooksWithoutOne() {
        OppositePairs x = solved("a|b|c|d|e|f.-a|-a|-a|-a|-a|wa.-wa|ya.-ya.-b|-b|-b|-b|wb|wb.-wb|yb.-yb.-c|-c|-c|-c|xc.-xc."
                + "-d|-d|-d|-d|wd|wd.-wd|yd.-yd.-e|xe|xe|xe|xe|xe.-xe.-f|-f|-f|-f|-f|-f.", 3, 0);
        Check.due("20000 LOOKS", x.closed(6), 1);
        Check.due("open(6, 0)", x.open(6, 0), NONE);
        OppositePairs y = solved("a|b|c|d|e|f.-a|-a|-a|xa|xa|xa.-xa.-b|-b|-b|-b|wb.-wb|yb.-yb.-c|-c|-c|-c|-c|-c.-d|-d|-d|-d."
                + "-e|-e|xe|xe|we|we.-xe.-we|ye.-ye.-f|-f|-f|-f|-f|-f.", 3, 0);
        Check.due("20001 LOOKS", y.closed(16), -2);
        Check.due("untold is not needed", y.needed() >> 16 & 1, 0);
        for (int k = 0; k < y.instance(NONE); k++) {
            Check.due("open(16, " + k + ")", y.open(16, k), NONE);
        }
    }

    /** The last LITERAL of an OPEN way is the 20000th LOOK, or would be the 20001st */
    private static void anOpenWayWithTheLastLook() {
        OppositePairs x = solved(LATE + ".", 9, 0);
        Check.due("20000 LOOKS", x.closed(8), 0);
        Check.due("needed", x.needed() >> 8 & 1, 1);
        int[] way = {5, 0, 0, 0, 0, 0, 0, 0, NONE, 0, 0};
        for (int k = 0; k < way.length; k++) {
            Check.due("open(8, " + k + ")", x.open(8, k), way[k]);
        }
        OppositePairs y = solved(LATE + "|zd.-zd.", 9, 0);
        Check.due("20001 LOOKS", y.closed(8), -2);
        Check.due("not needed", y.needed() >> 8 & 1, 0);
        for (int k = 0; k < 12; k++) {
            Check.due("open(8, " + k + ")", y.open(8, k), NONE);
        }
    }

    // ---- Promise 21: open

    /** "The LITERAL of INSTANCE k in the first OPEN way (by LITERALS)" */
    private static void openTellsTheFirst() {
        OppositePairs x = solved("p|q|r. -p|s. -s. -q. -r.", 2, 0);
        // INSTANCES: the START, -p|s, -s, -q, -r.
        int[][] ways = {{NONE, 0, 0, 0, 0}, {0, NONE, 0, 0, 0}, {0, 1, NONE, 0, 0}, {1, 0, 0, NONE, 0}, {2, 0, 0, 0, NONE}};
        for (int i = 0; i < 5; i++) {
            for (int k = 0; k < 5; k++) {
                Check.due("open(" + i + ", " + k + ")", x.open(i, k), ways[i][k]);
            }
        }
        // A later LITERAL ahead of the INSTANCE that is left out, and behind it.
        OppositePairs w = solved("p|r. -p. p|-r|s. -s.", 2, 0);
        int[][] later = {{NONE, 0, 1, 0, 0}, {NONE, NONE, NONE, NONE, NONE}, {1, 0, NONE, 0, 0},
            {NONE, NONE, NONE, NONE, NONE}, {1, 0, 2, 0, NONE}};
        for (int i = 0; i < 5; i++) {
            for (int k = 0; k < 5; k++) {
                Check.due("open(" + i + ", " + k + ")", w.open(i, k), later[i][k]);
            }
        }
        // No OPEN one without what is there twice.
        OppositePairs y = solved("p|p. -p.", 1, 0);
        for (int k = 0; k < 3; k++) {
            Check.due("open(1, " + k + ")", y.open(1, k), NONE);
            Check.due("open(2, " + k + ")", y.open(2, k), NONE);
            Check.due("open(0, " + k + ")", y.open(0, k), k == 0 ? NONE : 0);
        }
        // The last INSTANCE of thirty, and the last LITERAL of six.
        OppositePairs z = solved("a|a|a|a|a|b. -a. -b.", 1, 0);
        Check.due("open(6, 0)", z.open(6, 0), 5);
        Check.due("open(6, 5)", z.open(6, 5), 0);
    }

    /** "NONE if there is none such, k is i, there is no PROOF, no OPEN one" */
    private static void openRefused() {
        for (int i : FAR) {
            Eye.refused("open(" + i + ", 0)", TapeEdgesTest::rich, x -> x.open(i, 0), NONE);
            Eye.refused("open(0, " + i + ")", TapeEdgesTest::rich, x -> x.open(0, i), NONE);
        }
        int[][] wrong = {{-1, 0}, {0, -1}, {4, 0}, {0, 4}, {4, 4}, {-1, -1}, {0, 0}, {3, 3}, {MIN, MAX}};
        for (int[] w : wrong) {
            Eye.refused("open(" + w[0] + ", " + w[1] + ")", TapeEdgesTest::rich, x -> x.open(w[0], w[1]), NONE);
        }
        Eye.refused("open(3, 2)", TapeEdgesTest::rich, x -> x.open(3, 2), 1);
        Eye.refused("open(2, 3)", TapeEdgesTest::rich, x -> x.open(2, 3), 0);
    }

    // ---- Promise 22: needed

    /** "INSTANCES without which THE MATRIX has an OPEN way, as bits" */
    private static void neededBits() {
        Check.due("all", solved("p. -p.", 1, 0).needed(), 3);
        Check.due("not what is there twice", solved("p|p|q. -p. -q.", 1, 0).needed(), 1 + 8);
        Check.due("not the START", solved("p|r. -p. -r|-p. p.", 2, 0).needed(), 2 + 8);
        // With a bit for the last of thirty.
        OppositePairs x = solved("a|a|a|a|c. -a|b|b|b|b|b. -c|b|b|b|d. -b. -d.", 2, 0);
        Check.due("INSTANCES", x.instance(NONE), 30);
        int needed = x.needed();
        for (int i = 0; i < 30; i++) {
            Check.due("bit " + i, needed >> i & 1, x.closed(i) == 0 ? 1 : 0);
        }
        Check.due("no other bit", needed >>> 30, 0);
        Check.due("the last one", needed >> 29 & 1, 1);
        Eye.refused("needed()", TapeEdgesTest::rich, OppositePairs::needed, 15);
    }

    /** "0 without a PROOF" */
    private static void neededWithout() {
        OppositePairs x = Check.told("p. -p.");
        Check.due("ahead of any", x.needed(), 0);
        Check.due("solve", x.solve(0, 1, 0), 1);
        Check.due("with one", x.needed(), 3);
        Check.due("solve", x.solve(0, 0, 0), 0);
        Check.due("behind one that found none", x.needed(), 0);
        Check.due("solve", x.solve(0, 1, 0), 1);
        Check.due("drop", x.drop(1), true);
        Check.due("when a CLAUSE goes", x.needed(), 0);
        Check.due("of a new one", new OppositePairs().needed(), 0);
    }

    // ---- Promise 24: look

    /** "0 CLAUSES, 1 LITERALS of all, 2 unlike NAMES of LITERALS (with how many TERMS), 3 bytes of THE TAPE" */
    private static void lookTells() {
        OppositePairs x = Check.told("p|-p|p(a)|p(X)|p(a,b)|pp. -q(p,q)|q(a,b). r(s(t(u))).");
        int[] want = {3, 9, 6, 0, 0, 0, 0, 0, 0};
        for (int what = 0; what < want.length; what++) {
            Check.due("look(" + what + ")", x.look(what), want[what]);
        }
        String most = "";
        for (int c = 0; c < 16; c++) {
            for (int k = 0; k < 6; k++) {
                most += (char) ('a' + c) + "" + (char) ('a' + k) + (k < 5 ? "|" : ".");
            }
        }
        OppositePairs y = Check.told(most);
        Check.due("CLAUSES", y.look(0), 16);
        Check.due("LITERALS", y.look(1), 96);
        Check.due("NAMES", y.look(2), 96);
        for (int n = 1; n <= 30; n++) {
            y.feed(0, 0, 0, 0, 0);
            Check.due("bytes", y.look(3), n * 20);
        }
        y.feed(0, 0, 0, 0, 0);
        Check.due("bytes", y.look(3), 600);
        y.end(1);
        Check.due("bytes", y.look(3), 1);
        y.drop(15);
        Check.due("LITERALS", y.look(1), 90);
        Check.due("NAMES", y.look(2), 90);
    }

    /** "4 1 if there is a PROOF, 5 its steps by LEMMAS, 6 REDUCTIONS, 7 EXTENSIONS (0 without)" */
    private static void lookOfTheProof() {
        OppositePairs x = Check.told("p|p|q. -p|-p. -q.");
        look(x, 0, 0, 0, 0);
        Check.due("solve", x.solve(0, 1, 0), 1);
        look(x, 1, 0, 2, 3);
        Check.due("solve", x.solve(0, 1, 2), 1);
        look(x, 1, 1, 1, 2);
        Check.due("solve that can't be", x.solve(3, 1, 2), NONE);
        look(x, 1, 1, 1, 2);
        Check.due("solve", x.solve(0, 0, 2), 0);
        look(x, 0, 0, 0, 0);
        Check.due("deepen", x.deepen(0, 3, 2), 1);
        look(x, 1, 1, 1, 2);
        Check.due("drop", x.drop(0), true);
        look(x, 0, 0, 0, 0);
    }

    private static void look(OppositePairs x, int... want) {
        for (int what = 4; what < 8; what++) {
            Check.due("look(" + what + ")", x.look(what), want[what - 4]);
        }
    }

    /** "NONE for another what." */
    private static void lookRefused() {
        for (int what : new int[] {-1, 9, 10, MIN, MAX}) {
            Eye.refused("look(" + what + ")", TapeEdgesTest::rich, x -> x.look(what), NONE);
            Check.due("of a new one", new OppositePairs().look(what), NONE);
        }
    }

    // ---- "An object is used for at most 512 calls after it has been made"

    /** The 512th call is answered like the first ones. */
    private static void theLastOfItsCalls() {
        OppositePairs x = new OppositePairs();
        int calls = 0;
        for (int n = 0; n < 127; n++) {
            x.feed(0x702E2D70, 0x7C712E2D, 0x712E2020, 0x20202020, 0x20202020);
            Check.due("clauses", x.clauses(), 3);
            Check.due("solve", x.solve(0, 2, n % 8), 1);
            Check.due("needed", x.needed(), 7);
            calls += 4;
        }
        Check.due("feed", x.feed(0x702E2D70, 0x7C712E2D, 0x712E2020, 0x20202020, 0x20202020), 20);
        Check.due("clauses", x.clauses(), 3);
        Check.due("deepen", x.deepen(0, 20, 0), 2);
        Check.due("calls", calls + 4, 512);
        Check.due("the 512th", x.closed(NONE), 1);
    }
}
