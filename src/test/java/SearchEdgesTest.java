/** Promises 10 to 16 and 23 and the second part of the Terms, each sentence with a boundary: inside, outside, what stays. */
public final class SearchEdgesTest {
    private static final int NONE = OppositePairs.NONE;
    private static final int MIN = Integer.MIN_VALUE;
    private static final int MAX = Integer.MAX_VALUE;
    private static final int REGULAR = 1;
    private static final int LEMMATA = 2;
    private static final int RESTRICTED = 4;
    /** With the NAME of a LITERAL around it 40 parts, and 41. */
    private static final String FIT = "f(f(f(a,a,a),f(a,a,a),f(a,a,a)),f(f(a,a,a),f(a,a,a),f(a,a,a)),"
            + "f(f(a,a,a),f(a,a,a),f(a,a)))";
    private static final String GREAT = FIT.replace("f(a,a))", "f(a,a,a))");

    public static void main(String[] args) {
        likeNamesAndAsManyTerms();
        neverToATermThatHasIt();
        asLittleAsCanBe();
        ofTwoVariables();
        termByTermFromTheLeft();
        oppositeByOneSign();
        meetsRefused();
        partnersRefused();
        pureAgainAndAgain();
        startDepthOptions();
        depthOfThePath();
        depthTwenty();
        thirtyInstances();
        fortyParts();
        fortyPartsOfWhatIsCut();
        fortyPartsOnThePath();
        everyOneLeftIsCut();
        latestLemmaOneWay();
        lemmasThereAre();
        reductionFromTheLatestBack();
        byNumbers();
        freeAgain();
        noOtherWayOnceClosed();
        optionsAreBits();
        thousandTries();
        thousandTriesOfDeepen();
        thousandTriesOfAny();
        triesUnifiedOrNot();
        solveRefused();
        deepenTells();
        anyTells();
        triedTells();
        proofOfTheLatest();
        eightAnswers();
        askedAgain();
        answersOfSolveAlone();
        answersGone();
        answerRefused();
        Check.finish("SearchEdgesTest");
    }

    private static void tried(OppositePairs x, int tries, int longest, int cuts, int extensions) {
        Check.due("TRIES", x.tried(0), tries);
        Check.due("the longest PATH", x.tried(1), longest);
        Check.due("cuts", x.tried(2), cuts);
        Check.due("EXTENSIONS that UNIFIED", x.tried(3), extensions);
    }

    private static void solved(String text, int start, int depth, int options, int want, int... counts) {
        OppositePairs x = Check.told(text);
        Check.due("solve of " + text, x.solve(start, depth, options), want);
        Check.due("a PROOF of " + text, x.look(4), want == 1 ? 1 : 0);
        for (int what = 0; what < counts.length; what++) {
            Check.due("tried(" + what + ") of " + text, x.tried(what), counts[what]);
        }
    }

    private static void meet(String one, String other, int want) {
        OppositePairs x = Check.told(one + "." + other + ".");
        Check.due(one + " meets " + other, x.meets(0, 0, 1, 0), want);
        Check.due(other + " meets " + one, x.meets(1, 0, 0, 0), want);
    }

    // ---- Terms, and promises 10 to 12: what meets

    /** "TO UNIFY two LITERALS (of like NAMES, as many TERMS)" */
    private static void likeNamesAndAsManyTerms() {
        meet("p", "-p", 1);
        meet("p", "-pp", 0);
        meet("abcdefgh", "-abcdefgh", 1);
        meet("abcdefgh", "-abcdefgg", 0);
        meet("abcdefgh", "-bbcdefgh", 0);
        meet("p(X)", "-p", 0);
        meet("p(X)", "-p(Y,Z)", 0);
        meet("p(X,Y,Z)", "-p(A,B,C)", 1);
        meet("p(X,Y)", "-p(A,B,C)", 0);
        meet("p(f)", "-p(f)", 1);
        meet("p(f)", "-p(f(a))", 0);
        meet("p(f(X))", "-p(f(Y,Z))", 0);
        meet("p(f(X))", "-p(g(X))", 0);
        solved("p(X). -p. -p(X,Y). -q(X).", 0, 20, 0, 0, 0, 0, 0, 0);
    }

    /** "a VARIABLE never to a TERM that has it" */
    private static void neverToATermThatHasIt() {
        // Of two INSTANCES the like letters are two VARIABLES.
        meet("p(X)", "-p(f(X))", 1);
        meet("p(X,X)", "-p(Y,Y)", 1);
        meet("p(X,X)", "-p(Y,f(Y))", 0);
        meet("p(X,X)", "-p(f(Y),Y)", 0);
        meet("p(X,f(X))", "-p(Y,Y)", 0);
        meet("p(X,Y)", "-p(f(Y),f(X))", 1);
        meet("p(X,Y,X)", "-p(Z,f(Z),f(Z))", 0);
        meet("p(X,Y,Y)", "-p(f(U),U,f(U))", 0);
        meet("p(X,Y,X)", "-p(U,f(U),V)", 1);
        meet("p(X,g(Y,Y),Y)", "-p(g(U,U),V,h(X,U))", 1);
        meet("p(X,g(Y,Y),Y)", "-p(g(U,U),V,h(V,V))", 0);
        OppositePairs x = Check.told("p(X)|-p(f(X)).");
        Check.due("of another INSTANCE of the same CLAUSE", x.meets(0, 0, 0, 1), 1);
        // On the PATH it is the same VARIABLE: no REDUCTION.
        solved("p(X). -p(Y)|-p(f(Y)).", 0, 1, 0, 0, 4, 1, 0, 2);
        solved("p(X). -p(Y)|-p(f(Z)).", 0, 1, 0, 1, 2, 1, 0, 1);
    }

    /** "their VARIABLES are bound, as little as can be, so that they are ALIKE" */
    private static void asLittleAsCanBe() {
        OppositePairs x = Check.told("p(X,f(Y),Z). -p(a,U,V).");
        Check.due("solve", x.solve(0, 1, 0), 1);
        Check.due("shown", Check.shown(x, 0, 0), "p(a,f(Y0),V1)");
        Check.due("shown", Check.shown(x, 1, 0), "-p(a,f(Y0),V1)");
    }

    /** "of two VARIABLES that of the first LITERAL (L) is bound to the other one" */
    private static void ofTwoVariables() {
        OppositePairs x = Check.told("p(X). -p(Y).");
        Check.due("solve", x.solve(0, 1, 0), 1);
        Check.due("an EXTENSION", Check.shown(x, 0, 0), "p(Y1)");
        Check.due("solve", x.solve(1, 1, 0), 1);
        Check.due("an EXTENSION", Check.shown(x, 0, 0), "-p(X1)");
        OppositePairs y = Check.told("p(X). -p(Y)|-p(Z).");
        Check.due("solve", y.solve(0, 1, 0), 1);
        Check.due("a REDUCTION", Check.shown(y, 1, 1), "-p(Y1)");
        Check.due("a REDUCTION", Check.shown(y, 0, 0), "p(Y1)");
    }

    /** "TERM by TERM from the left" */
    private static void termByTermFromTheLeft() {
        OppositePairs x = Check.told("p(X,X,W). -p(Y,Z,Z).");
        Check.due("solve", x.solve(0, 1, 0), 1);
        Check.due("X to Y, Y to Z, W to Z", Check.shown(x, 0, 0), "p(Z1,Z1,Z1)");
        OppositePairs y = Check.told("p(X,Y,f(X,Y)). -p(U,V,f(V,U)).");
        Check.due("solve", y.solve(0, 1, 0), 1);
        Check.due("X to U, Y to V, U to V", Check.shown(y, 0, 0), "p(V1,V1,f(V1,V1))");
        Check.due("solve", y.solve(1, 1, 0), 1);
        Check.due("U to X, V to Y, Y to X", Check.shown(y, 0, 0), "-p(X1,X1,f(X1,X1))");
    }

    /** "OPPOSITE are a LITERAL with - and one without it." */
    private static void oppositeByOneSign() {
        meet("p(X)", "p(X)", 0);
        meet("-p(X)", "-p(X)", 0);
        meet("-p(X)", "p(X)", 1);
        solved("p|q. p. q.", 0, 20, 0, 0, 0, 0, 0, 0);
    }

    /** meets: "NONE if there is none such." */
    private static void meetsRefused() {
        int[][] wrong = {{-1, 0, 0, 0}, {5, 0, 0, 0}, {16, 0, 0, 0}, {0, -1, 0, 0}, {0, 2, 0, 0}, {3, 1, 0, 0}, {0, 0, -1, 0},
            {0, 0, 5, 0}, {0, 0, 0, -1}, {0, 0, 0, 2}, {0, 0, 3, 1}, {MIN, MIN, MIN, MIN}, {MAX, MAX, MAX, MAX}};
        for (int[] w : wrong) {
            Eye.refused("meets", TapeEdgesTest::rich, x -> x.meets(w[0], w[1], w[2], w[3]), NONE);
        }
        Check.due("the last ones", TapeEdgesTest.rich().meets(0, 1, 4, 0), 1);
        Check.due("the last ones", TapeEdgesTest.rich().meets(4, 0, 4, 0), 0);
        // What is answered leaves all, too: THE PROOF stays bound as it is.
        Eye.refused("meets(0, 1, 4, 0)", TapeEdgesTest::rich, x -> x.meets(0, 1, 4, 0), 1);
        Eye.refused("meets(0, 1, 3, 0)", TapeEdgesTest::rich, x -> x.meets(0, 1, 3, 0), 0);
    }

    /** partners: "(its own, too)"; "NONE if there is none such." */
    private static void partnersRefused() {
        int[][] wrong = {{-1, 0}, {5, 0}, {0, -1}, {0, 2}, {3, 1}, {0, 6}, {16, 0}, {MIN, MIN}, {MAX, MAX}};
        for (int[] w : wrong) {
            Eye.refused("partners", TapeEdgesTest::rich, x -> x.partners(w[0], w[1]), NONE);
        }
        Eye.refused("partners(0, 1)", TapeEdgesTest::rich, x -> x.partners(0, 1), 2);
        OppositePairs own = Check.told("p(X)|-p(f(X))|-p(Y)|p(a).");
        int[] want = {2, 1, 2, 1};
        for (int k = 0; k < 4; k++) {
            Check.due("its own", own.partners(0, k), want[k]);
        }
        Check.due("none", Check.told("p. p.").partners(0, 0), 0);
        // The most there can be: all of fifteen CLAUSES and five of its own.
        OppositePairs most = Check.told("p|-p|-p|-p|-p|-p." + "-p|-p|-p|-p|-p|-p.".repeat(15));
        Check.due("the most", most.partners(0, 0), 95);
        Check.due("one", most.partners(15, 5), 1);
    }

    /** pure: "if again and again all go of which a LITERAL meets none of those that are left" */
    private static void pureAgainAndAgain() {
        Check.due("none told", new OppositePairs().pure(), 0);
        Check.due("none goes", Check.told("p.-p.").pure(), 0);
        Check.due("one goes", Check.told("p.-p.q.").pure(), 4);
        Check.due("one alone", Check.told("p.").pure(), 1);
        Check.due("its own LITERAL is left", Check.told("p(X)|-p(Y).").pure(), 0);
        // All of a round go together: of two that meet but each other's CLAUSE, none stays behind.
        Check.due("two rounds", Check.told("p|q.-p.-q|r.").pure(), 7);
        Check.due("the last of sixteen", Check.told("p.-p.".repeat(7) + "p.q.").pure(), 1 << 15);
        StringBuilder rounds = new StringBuilder();
        for (char c = 'p'; c > 'a'; c--) {
            rounds.append("-" + (char) (c - 1) + "|" + c + ".");
        }
        Check.due("sixteen rounds, from the first", Check.told(rounds + "a.").pure(), 65535);
        Eye.refused("pure()", TapeEdgesTest::rich, OppositePairs::pure, 0);
    }

    // ---- Promise 13: "a DEPTH (0 .. 20), OPTIONS (0 .. 7)"; "NONE if one can't be."

    private static void startDepthOptions() {
        for (int depth = 0; depth <= 20; depth++) {
            for (int options = 0; options <= 7; options++) {
                OppositePairs x = Check.told("p. -p.");
                Check.due("solve", x.solve(1, depth, options), depth > 0 ? 1 : 0);
                Check.due("deepen", x.deepen(1, depth, options), depth > 0 ? 1 : NONE);
                Check.due("any", x.any(depth, options), depth > 0 ? 0 : NONE);
            }
        }
        OppositePairs full = Check.told("p.".repeat(15) + "-p.");
        Check.due("the last START", full.solve(15, 1, 0), 1);
        Check.due("the last START", full.deepen(15, 20, 7), 1);
        Check.due("none behind it", full.solve(16, 1, 0), NONE);
        Check.due("none behind it", full.deepen(16, 1, 0), -3);
    }

    private static final int[][] CANNOT = {{-1, 1, 0}, {5, 1, 0}, {16, 1, 0}, {MIN, 1, 0}, {MAX, 1, 0}, {0, -1, 0}, {0, 21, 0},
        {0, MIN, 0}, {0, MAX, 0}, {0, 2, -1}, {0, 2, 8}, {0, 2, MIN}, {0, 2, MAX}, {-1, -1, -1}, {0, 22, 8}};

    private static void solveRefused() {
        for (int[] w : CANNOT) {
            String asked = "(" + w[0] + ", " + w[1] + ", " + w[2] + ")";
            Eye.refused("solve" + asked, TapeEdgesTest::rich, x -> x.solve(w[0], w[1], w[2]), NONE);
            Eye.refused("deepen" + asked, TapeEdgesTest::rich, x -> x.deepen(w[0], w[1], w[2]), -3);
            if (w[0] == 0) {
                Eye.refused("any" + asked, TapeEdgesTest::rich, x -> x.any(w[1], w[2]), -3);
            }
        }
        Eye.refused("solve without CLAUSES", OppositePairs::new, x -> x.solve(0, 1, 0), NONE);
        Eye.refused("deepen without CLAUSES", OppositePairs::new, x -> x.deepen(0, 1, 0), -3);
        Eye.refused("any without CLAUSES", OppositePairs::new, x -> x.any(1, 0), NONE);
    }

    // ---- Terms: TO CLOSE

    /** "EXTENSION, if the PATH has fewer than DEPTH LITERALS" */
    private static void depthOfThePath() {
        String chain = "a. -a|b. -b|c. -c.";
        solved(chain, 0, 0, 0, 0, 0, 0, 0, 0);
        solved(chain, 0, 1, 0, 0, 1, 1, 0, 1);
        solved(chain, 0, 2, 0, 0, 2, 2, 0, 2);
        solved(chain, 0, 3, 0, 1, 3, 3, 0, 3);
        solved(chain, 0, 4, 0, 1, 3, 3, 0, 3);
        // A REDUCTION needs no room.
        solved("a. -a|b. -b|-a.", 0, 2, 0, 1, 3, 2, 0, 2);
        solved("a. -a|b. -b|-a.", 0, 1, 0, 0, 2, 1, 0, 2);
    }

    /** DEPTH "0 .. 20": a PATH of 20 LITERALS, and one more */
    private static void depthTwenty() {
        String rules = "-p(s(X),Y)|p(X,Y). -p(z,s(Y))|p(s(s(s(z))),Y). -p(z,z). p(s(s(s(";
        OppositePairs x = Check.told(rules + "z))),s(s(s(s(z))))).");
        Check.due("solve", x.solve(3, 19, 0), 0);
        Check.due("solve", x.solve(3, 20, 0), 1);
        Check.due("the longest PATH", x.tried(1), 20);
        Check.due("PATH of the last step", x.step(19, 5), 19);
        Check.due("deepen", x.deepen(3, 20, 0), 20);
        Check.due("deepen", x.deepen(3, 19, 0), NONE);
        OppositePairs y = Check.told(rules + "s(z)))),s(s(s(s(z))))).");
        Check.due("solve", y.solve(3, 20, 0), 0);
        Check.due("the longest PATH", y.tried(1), 20);
        Check.due("deepen", y.deepen(3, 20, 0), NONE);
    }

    /** "INSTANCES (30 at most)"; "(What would be the 31st INSTANCE fails, but is a TRY.)" */
    private static void thirtyInstances() {
        String most = "a|a|a|a|c. -a|b|b|b|b|b. -c|b|b|b|b";
        solved(most + ". -b.", 0, 2, 0, 1, 29, 2, 0, 29);
        solved(most + "|b. -b.", 0, 2, 0, 0, 30, 2, 0, 29);
        // Each CLAUSE that it could be of is a TRY.
        solved(most + "|b. -b. -b|d.", 0, 2, RESTRICTED, 0, 31, 2, 0, 29);
        OppositePairs x = Check.told(most + ". -b.");
        Check.due("solve", x.solve(0, 2, 0), 1);
        Check.due("instance(NONE)", x.instance(NONE), 30);
        Check.due("instance(29)", x.instance(29), 3);
        Check.due("instance(30)", x.instance(30), NONE);
        // Another way that needs none more is gone: here by REDUCTION, here by a LEMMA.
        OppositePairs r = Check.told(most + "|-c. -b.");
        Check.due("solve", r.solve(0, 2, 0), 1);
        Check.due("instance(NONE)", r.instance(NONE), 30);
        Check.due("REDUCTIONS", r.look(6), 1);
        OppositePairs l = Check.told(most + "|b. -b.");
        Check.due("solve", l.solve(0, 2, LEMMATA), 1);
        // What failed for want of one more is tried otherwise, with fewer: its INSTANCES are gone.
        OppositePairs z = Check.told("a|a|a|a|c. -a|b|b|b|b|b. -c|b|b|b|b|b. -c. -b.");
        Check.due("solve", z.solve(0, 2, 0), 1);
        Check.due("instance(NONE)", z.instance(NONE), 26);
        tried(z, 31, 2, 0, 30);
    }

    /** "The first one L, if it is of more than 40 parts, fails." */
    private static void fortyParts() {
        OppositePairs x = Check.told("p(" + FIT + "). p(" + GREAT + ").");
        Check.due("parts", x.clause(0, 2), 40);
        Check.due("parts", x.clause(1, 2), 41);
        solved("p(" + FIT + "). -p(X).", 0, 1, 0, 1, 1, 1, 0, 1);
        solved("p(" + GREAT + "). -p(X).", 0, 1, 0, 0, 0, 0, 0, 0);
        // "all that is bound put in": -q(X) of 2 parts comes to have 40, and 41.
        solved("p(X)|q(X). -p(" + FIT + "). -q(X).", 0, 1, 0, 1, 2, 1, 0, 2);
        solved("p(X)|q(X). -p(" + GREAT + "). -q(X).", 0, 1, 0, 0, 1, 1, 0, 1);
        // With all three ways: neither a LEMMA nor a REDUCTION closes it.
        String rules = "p(X)|q. -p(Y)|-r(Y)|p(Y). r(";
        Check.due("a great one fails", Check.told(rules + GREAT + "). -q. -p(Z).").solve(0, 1, LEMMATA), 1);
        solved("s(X)|t(X)|s(X). -s(V). -t(" + FIT + ").", 0, 1, LEMMATA, 1, 2, 1, 0, 2);
        solved("s(X)|t(X)|s(X). -s(V). -t(" + GREAT + ").", 0, 1, LEMMATA, 0, 2, 1, 0, 2);
        // What closes L may be greater.
        solved("p(X). -p(" + GREAT + ").", 0, 1, 0, 1, 1, 1, 0, 1);
    }

    /** "with REGULAR: if one of those that are left, of 40 parts at most, is ALIKE one of the PATH, it fails (a cut)" */
    private static void fortyPartsOfWhatIsCut() {
        String rules = "p(X). -p(Y)|-q(Y,W)|p(W). q(Z,Z)|-r(Z). r(";
        solved(rules + FIT + ").", 0, 5, REGULAR, 0, 3, 3, 1, 3);
        solved(rules + GREAT + ").", 0, 5, REGULAR, 0, 3, 3, 0, 3);
        // Behind the first one, too: then a great one is left until it fails in its turn.
        String later = "p(X). -p(Y)|-q(Y)|-s|p(Y). q(Z)|-r(Z). s. r(";
        solved(later + FIT + ").", 0, 5, REGULAR, 0, 1, 1, 1, 1);
        String open = "p(X). -p(Y)|-q(Y,W)|-s|p(W). q(Z,Z)|-r(Z). s. r(";
        solved(open + FIT + ").", 0, 5, REGULAR, 0, 3, 3, 1, 3);
        solved(open + GREAT + ").", 0, 5, REGULAR, 0, 4, 3, 0, 4);
    }

    /** "if one of those that are left is ALIKE one of the PATH": the first, the last, none; any one of the PATH */
    private static void everyOneLeftIsCut() {
        solved("p. -p|p|q. -q.", 0, 5, REGULAR, 0, 1, 1, 1, 1);
        solved("p. -p|q|p. -q.", 0, 5, REGULAR, 0, 1, 1, 1, 1);
        solved("p. -p|q|r. -q. -r.", 0, 5, REGULAR, 1, 3, 2, 0, 3);
        solved("p. -p|q. -q|r. -r|p. -r|q. -r|s. -s.", 0, 9, REGULAR, 1, 6, 4, 2, 6);
        // What is ALIKE only by a binding that comes later is cut then; a VARIABLE is not ALIKE another one.
        solved("p(a). -p(X)|q(Y)|p(Y). -q(a).", 0, 5, REGULAR, 0, 2, 2, 1, 2);
        solved("p(X). -p(Y)|p(Z).", 0, 3, REGULAR, 0, 3, 3, 0, 3);
        // The one that closed is not among those left, nor is an OPPOSITE one ALIKE.
        solved("p. -p|-p.", 0, 1, REGULAR, 1, 2, 1, 0, 1);
        // Without the option there is no cut.
        solved("p. -p|p.", 0, 3, 0, 0, 3, 3, 0, 3);
        solved("p. -p|p.", 0, 3, LEMMATA + RESTRICTED, 0, 3, 3, 0, 3);
        solved("p. -p|p.", 0, 3, REGULAR, 0, 1, 1, 1, 1);
    }

    /** "REDUCTION: by each LITERAL of the PATH that is of 40 parts at most" */
    private static void fortyPartsOnThePath() {
        String rules = "p(X). -p(Y)|-q(Y)|-p(Z). q(";
        OppositePairs x = Check.told(rules + FIT + ").");
        Check.due("solve", x.solve(0, 2, 0), 1);
        Check.due("REDUCTIONS", x.look(6), 1);
        tried(x, 3, 2, 0, 2);
        OppositePairs y = Check.told(rules + GREAT + ").");
        Check.due("solve", y.solve(0, 2, 0), 1);
        Check.due("REDUCTIONS", y.look(6), 0);
        tried(y, 3, 2, 0, 3);
    }

    /** "if a LEMMA is ALIKE it: by the latest such one (one way)" */
    private static void latestLemmaOneWay() {
        OppositePairs x = Check.told("p|p|q|p. -p. -q.");
        Check.due("solve", x.solve(0, 1, LEMMATA), 1);
        Check.due("step(1, 4)", x.step(1, 4), 0);
        Check.due("step(3, 4)", x.step(3, 4), 1);
        Check.due("LEMMAS", x.look(5), 2);
        // If what is behind fails, no earlier LEMMA is tried, but REDUCTION and EXTENSION are: by -p, -p|r and -r.
        solved("p|p|p|s. -p. -p|r. -r.", 0, 2, LEMMATA, 0, 27, 2, 0, 27);
        solved("p|p|p|s. -p. -p|r. -r.", 0, 2, LEMMATA + RESTRICTED, 0, 1, 1, 0, 1);
        // A LEMMA binds nothing, and an OPPOSITE one is none.
        Check.due("not ALIKE", lemmas("p(X)|p(Y). -p(a)."), 0);
        Check.due("ALIKE by then", lemmas("p(X)|q(X,Y)|p(Y). -p(a). -q(V,V)."), 1);
        Check.due("OPPOSITE", lemmas("p|-p. -p. p."), 0);
    }

    private static int lemmas(String text) {
        OppositePairs x = Check.told(text);
        Check.due("solve of " + text, x.solve(0, 2, LEMMATA), 1);
        return x.look(5);
    }

    /** "LEMMAS (none for the START)"; "with the PATH and L, and the LEMMAS there are"; "L as one LEMMA more" behind it */
    private static void lemmasThereAre() {
        // For the rest of the row, and for what is below the rest.
        Check.due("beside it", lemmas("p|p. -p."), 1);
        Check.due("below what is beside it", lemmas("p|q. -p. -q|p."), 1);
        // Not for what is below L itself (that is the PATH), nor above where it was closed.
        Check.due("below itself", lemmas("p. -p|q. -q|p. -p."), 0);
        Check.due("above", lemmas("q|p. -q|p. -p."), 0);
        Check.due("without LEMMATA", Check.told("p|p. -p.").solve(0, 1, 0), 1);
    }

    /** "by each LITERAL of the PATH, from the latest back to the first" */
    private static void reductionFromTheLatestBack() {
        OppositePairs x = Check.told("p(a). -p(X)|p(b). -p(b)|p(c). -p(c)|-p(Y)|q(Y). -q(a).");
        Check.due("solve", x.solve(0, 4, REGULAR), 1);
        // -p(Y) is closed by p(c), p(b), p(a) in turn, until q(Y) can be.
        Check.due("by the first at last", Check.shown(x, 3, 1), "-p(a)");
        OppositePairs y = Check.told("p(a). -p(X)|p(b). -p(b)|p(c). -p(c)|-p(Y)|q(Y). -q(V).");
        Check.due("solve", y.solve(0, 4, REGULAR), 1);
        Check.due("by the latest", Check.shown(y, 3, 1), "-p(c)");
        // The START's PATH is empty.
        solved("p|-p.", 0, 0, 0, 0, 0, 0, 0, 0);
    }

    /** "by each CLAUSE, by numbers, each LITERAL of it, by numbers" */
    private static void byNumbers() {
        OppositePairs x = Check.told("p(X)|q(X). -p(a)|-p(b). -p(c). -q(c). -q(b)|-q(a).");
        Check.due("solve", x.solve(0, 1, 0), 1);
        Check.due("instance(1)", x.instance(1), 2);
        OppositePairs y = Check.told("p(X). -p(a)|-p(X). -p(c).");
        Check.due("solve", y.solve(0, 1, 0), 1);
        Check.due("the first LITERAL", y.step(0, 4), 0);
        Check.due("shown", Check.shown(y, 0, 0), "p(a)");
        OppositePairs z = Check.told("p(X)|r(X). -p(a)|-p(Y)|s. -p(Y)|-p(c). -r(c). -r(a).");
        Check.due("solve", z.solve(0, 1, 0), 1);
        Check.due("the second CLAUSE", z.instance(1), 2);
        Check.due("its first LITERAL", z.step(0, 4), 0);
        // The START's own CLAUSE is among them, as a new INSTANCE.
        OppositePairs own = Check.told("-p|p. p. -p.");
        Check.due("solve", own.solve(0, 2, 0), 1);
        int[] clauses = {0, 0, 1, 0, 2};
        for (int i = 0; i < 6; i++) {
            Check.due("instance(" + i + ")", own.instance(i), i < 5 ? clauses[i] : NONE);
        }
    }

    /** "What is bound by a way is free again behind it, and its INSTANCES are gone." */
    private static void freeAgain() {
        OppositePairs x = Check.told("p(X,Y). -p(a,Z)|q(Z). -q(b)|r. -p(V,c).");
        Check.due("solve", x.solve(0, 3, 0), 1);
        Check.due("INSTANCES", x.instance(NONE), 2);
        Check.due("instance(1)", x.instance(1), 3);
        Check.due("shown", Check.shown(x, 0, 0), "p(V1,c)");
        Check.due("steps", x.step(NONE, 0), 1);
        tried(x, 3, 2, 0, 3);
    }

    /** "With RESTRICTED no other way of L is tried once it was closed (and all that an EXTENSION of it needs)." */
    private static void noOtherWayOnceClosed() {
        solved("p(X)|q(X). -p(a). -p(b). -q(b).", 0, 1, 0, 1, 4, 1, 0, 3);
        solved("p(X)|q(X). -p(a). -p(b). -q(b).", 0, 1, RESTRICTED, 0, 2, 1, 0, 1);
        // As long as it is not closed, other ways are tried: a CLAUSE that is not met, one whose others fail.
        solved("p(a)|q. -p(b). -p(X)|r. -p(X). -q.", 0, 2, RESTRICTED, 1, 4, 1, 0, 3);
        // One that an EXTENSION needs is closed, the next one is not: the EXTENSION is not closed, and another is tried.
        solved("p(X). -p(X)|q(X)|r(X). -q(a). -q(b). -r(b). -p(c).", 0, 2, RESTRICTED, 1, 4, 2, 0, 3);
        solved("p(X). -p(X)|q(X)|r(X). -q(a). -q(b). -r(b). -p(c).", 0, 2, 0, 1, 5, 2, 0, 4);
        // That an EXTENSION's others can be CLOSED in several ways is several ways, too: q(X) by a, then by b.
        solved("p(X)|s(X). -p(X)|q(X). -q(a). -q(b). -s(b).", 0, 2, 0, 1, 5, 2, 0, 4);
        solved("p(X)|s(X). -p(X)|q(X). -q(a). -q(b). -s(b).", 0, 2, RESTRICTED, 0, 3, 2, 0, 2);
        // Closed by REDUCTION.
        solved("p(X)|s(X). -p(Y)|-p(Z). -s(a).", 0, 1, RESTRICTED, 1, 3, 1, 0, 2);
        solved("p(b). -p(X)|-p(Y)|q(Y). p(a). -q(a).", 0, 2, 0, 1, 7, 2, 0, 4);
        solved("p(b). -p(X)|-p(Y)|q(Y). p(a). -q(a).", 0, 2, RESTRICTED, 0, 6, 1, 0, 2);
    }

    /** "OPTIONS (bits): 1 REGULAR, 2 LEMMATA, 4 RESTRICTED." */
    private static void optionsAreBits() {
        // p|q below p is cut; the second p is a LEMMA; x(X) is closed once.
        String text = "o|x(X)|y(X). -o|o. -o|m|m. -m. -x(a). -x(b). -y(b).";
        for (int options = 0; options < 8; options++) {
            OppositePairs x = Check.told(text);
            boolean found = x.solve(0, 3, options) == 1;
            Check.due("RESTRICTED fails", found, options < 4);
            Check.due("REGULAR cuts", x.tried(2) > 0, options % 2 == 1);
            Check.due("LEMMATA", x.look(5) > 0, found && options / 2 % 2 == 1);
        }
    }

    // ---- Terms: TRIES

    private static String sixes(String literal, int count) {
        StringBuilder text = new StringBuilder();
        for (int n = 0; n < count; n++) {
            text.append(literal).append(n % 6 == 5 || n == count - 1 ? "." : "|");
        }
        return text.toString();
    }

    /**
     * z(a) is closed behind so many that are not met; then p(a) branches in two at each place of the PATH, at each of
     * which so many are not met.
     */
    private static String fails(int once, int often) {
        return "z(a)|p(a)." + sixes("-z(b)", once) + "-z(a)." + sixes("-p(b)", often) + "-p(X)|p(c).-p(X)|p(c).";
    }

    /** "1000 at most: with what would be one more it is GIVEN UP" */
    private static void thousandTries() {
        solved(fails(7, 30), 0, 5, 0, 0, 1000);
        solved(fails(8, 30), 0, 5, 0, -2, 1000);
        // The 1000th is the one that closes, and the 1001st.
        solved(fails(7, 29) + "-p(a).", 0, 5, 0, 1, 1000);
        solved(fails(8, 29) + "-p(a).", 0, 5, 0, -2, 1000);
        OppositePairs x = Check.told(fails(8, 30));
        Check.due("solve", x.solve(0, 5, 0), -2);
        Check.due("the ANSWER", x.answer(0, 3), -2);
        // Each call has its own.
        Check.due("solve", x.solve(0, 4, 0), 0);
        Check.due("TRIES", x.tried(0), 9 + 15 * 32);
        Check.due("solve", x.solve(0, 5, 0), -2);
        Check.due("TRIES", x.tried(0), 1000);
    }

    /** "of a call of deepen() 1000 at most, of all that it tries together" */
    private static void thousandTriesOfDeepen() {
        OppositePairs x = Check.told(fails(28, 13));
        Check.due("deepen", x.deepen(0, 5, 0), NONE);
        Check.due("TRIES", x.tried(0), 1000);
        OppositePairs y = Check.told(fails(51, 11));
        Check.due("deepen", y.deepen(0, 5, 0), -2);
        Check.due("TRIES", y.tried(0), 1000);
        Check.due("alone it is not", y.solve(0, 5, 0), 0);
        String chain = "-p(a)|q(a).-q(a)|r.-r|s.-s|t.-t.";
        OppositePairs found = Check.told(fails(2, 14) + chain + "-q(b)|-q(b).");
        Check.due("deepen", found.deepen(0, 20, 0), 5);
        Check.due("TRIES", found.tried(0), 1000);
        OppositePairs late = Check.told(fails(1, 14) + chain + "-q(b)|-q(b)|-q(b)|-q(b).");
        Check.due("deepen", late.deepen(0, 20, 0), -2);
        Check.due("TRIES", late.tried(0), 1000);
        Check.due("alone it is not", late.solve(0, 5, 0), 1);
        Check.due("a PROOF", late.look(4), 1);
        Check.due("deepen", late.deepen(0, 5, 0), -2);
        Check.due("no PROOF", late.look(4), 0);
    }

    /** "of a call of any() 1000 at most, of all that it tries together" */
    private static void thousandTriesOfAny() {
        String rules = fails(0, 16) + "w(a).";
        OppositePairs x = Check.told(rules + sixes("-w(b)", 4));
        Check.due("any", x.any(3, 0), NONE);
        Check.due("TRIES", x.tried(0), 1000);
        OppositePairs y = Check.told(rules + sixes("-w(b)", 5));
        Check.due("any", y.any(3, 0), -2);
        Check.due("TRIES", y.tried(0), 1000);
        OppositePairs found = Check.told(rules + sixes("-w(b)", 3) + "y.-y.");
        Check.due("any", found.any(3, 0), found.look(0) - 2);
        Check.due("TRIES", found.tried(0), 1000);
        OppositePairs late = Check.told(rules + sixes("-w(b)", 4) + "y.-y.");
        Check.due("any", late.any(3, 0), -2);
        Check.due("TRIES", late.tried(0), 1000);
        Check.due("no PROOF", late.look(4), 0);
        // A START that is GIVEN UP is not left for the next one.
        OppositePairs first = Check.told(fails(8, 30) + "y.-y.");
        Check.due("any", first.any(5, 0), -2);
    }

    /** "TRIES: each REDUCTION and EXTENSION by one that is OPPOSITE with like NAME and as many TERMS (UNIFIED or not)" */
    private static void triesUnifiedOrNot() {
        solved("p(a). -p(b).", 0, 1, 0, 0, 1, 0, 0, 0);
        solved("p(a). -p(a).", 0, 1, 0, 1, 1, 1, 0, 1);
        solved("p(a). -p(a,a). -p. -q(a). p(a).", 0, 1, 0, 0, 0, 0, 0, 0);
        // By the PATH: like NAME or not, as many TERMS or not, UNIFIED or not.
        solved("p(a). -p(X)|-p(b).", 0, 1, 0, 0, 3, 1, 0, 1);
        solved("p(a). -p(X)|-q(b).", 0, 1, 0, 0, 1, 1, 0, 1);
        solved("p(a). -p(X)|-p(b,b).", 0, 1, 0, 0, 1, 1, 0, 1);
        // A LEMMA is none.
        solved("p|p|p. -p.", 0, 1, LEMMATA, 1, 1, 1, 0, 1);
    }

    // ---- Promises 14 to 16

    /** deepen: "from 0 up to most (0 .. 20)"; "NONE if there is none up to most" */
    private static void deepenTells() {
        OppositePairs x = Check.told("a. -a|b. -b|c. -c.");
        int[] want = {NONE, NONE, NONE, 3, 3, 3};
        for (int most = 0; most < want.length; most++) {
            Check.due("deepen(0, " + most + ", 0)", x.deepen(0, most, 0), want[most]);
            Check.due("a PROOF", x.look(4), most < 3 ? 0 : 1);
        }
        Check.due("deepen(0, 20, 0)", x.deepen(0, 20, 0), 3);
        tried(x, 1 + 2 + 3, 3, 0, 6);
        Check.due("the least of several", Check.told("a. -a|b. -b. -a.").deepen(0, 20, 0), 1);
    }

    /** any: "The least START from which there is a PROOF"; "NONE if there is none" */
    private static void anyTells() {
        OppositePairs x = Check.told("a|b. c. -c|d. -d.");
        Check.due("any(0, 0)", x.any(0, 0), NONE);
        Check.due("any(1, 0)", x.any(1, 0), 2);
        Check.due("any(2, 0)", x.any(2, 0), 1);
        Check.due("the START's CLAUSE", x.instance(0), 1);
        OppositePairs end = Check.told("p|q.".repeat(15) + "-p|r|-r.");
        Check.due("none of sixteen", end.any(3, 0), NONE);
        OppositePairs far = Check.told("x.".repeat(13) + "-q(a). -r(a). q(X)|r(X).");
        Check.due("the last of sixteen", far.any(1, 0), 15);
        Check.due("without CLAUSES", new OppositePairs().any(20, 7), NONE);
    }

    /** tried: "0 ahead of any; NONE for another what"; "(also of an EXTENSION without others)" */
    private static void triedTells() {
        OppositePairs x = Check.told("p. -p.");
        tried(x, 0, 0, 0, 0);
        Check.due("solve", x.solve(0, 0, 0), 0);
        tried(x, 0, 0, 0, 0);
        Check.due("solve", x.solve(0, 1, 0), 1);
        tried(x, 1, 1, 0, 1);
        for (int what : new int[] {-1, 4, 5, MIN, MAX}) {
            Eye.refused("tried(" + what + ")", TapeEdgesTest::rich, y -> y.tried(what), NONE);
            Check.due("ahead of any", new OppositePairs().tried(what), NONE);
        }
        // Of the latest one that told no NONE by its arguments, whatever it was.
        Check.due("any", x.any(0, 0), NONE);
        tried(x, 0, 0, 0, 0);
        Check.due("deepen", x.deepen(0, 1, 0), 1);
        tried(x, 1, 1, 0, 1);
        Check.due("solve", x.solve(2, 1, 0), NONE);
        Check.due("deepen", x.deepen(0, 21, 0), -3);
        Check.due("any", x.any(1, 8), -3);
        tried(x, 1, 1, 0, 1);
        Check.due("deepen", x.deepen(0, 0, 0), NONE);
        tried(x, 0, 0, 0, 0);
        // Sums over all that was tried together, and the most of PATHS.
        OppositePairs z = Check.told("a. -a|a. -a|b.");
        Check.due("deepen", z.deepen(0, 3, REGULAR), NONE);
        tried(z, 2 * 3, 1, 3, 2 * 3);
        Check.due("any", z.any(2, REGULAR), NONE);
        Check.due("cuts of all STARTS", z.tried(2) > 1, true);
    }

    /** "THE PROOF is that of the latest .. if it found one (none behind one that did not, and when CLAUSES come or go)" */
    private static void proofOfTheLatest() {
        OppositePairs x = Check.told("p. -p. q.");
        int[][] without = {{0, 0}, {1, 0}, {2, 0}};
        for (int[] w : without) {
            Check.due("solve", x.solve(0, 1, 0), 1);
            Check.due("look(4)", x.look(4), 1);
            int told = w[0] == 0 ? x.solve(2, 1, 0) : w[0] == 1 ? x.deepen(2, 1, 0) : x.any(0, 0);
            Check.due("not found", told, w[0] == 0 ? 0 : NONE);
            Check.due("look(4)", x.look(4), 0);
            Check.due("step(NONE, 0)", x.step(NONE, 0), NONE);
            Check.due("instance(NONE)", x.instance(NONE), NONE);
        }
        Check.due("deepen", x.deepen(1, 3, 0), 1);
        Check.due("its START", x.instance(0), 1);
        Check.due("any", x.any(3, 0), 0);
        Check.due("its START", x.instance(0), 0);
        Check.due("GIVEN UP", Check.told(fails(8, 30)).solve(0, 5, 0), -2);
        // CLAUSES come (the same ones, none at all) or go.
        for (int way = 0; way < 3; way++) {
            OppositePairs y = Check.told("p. -p. q.");
            Check.due("solve", y.solve(0, 1, 0), 1);
            int told = way == 0 ? Check.tell(y, "p. -p. q.") : way == 1 ? y.clauses() : y.drop(2) ? 2 : 0;
            Check.due("CLAUSES", told, way == 0 ? 3 : way == 1 ? 0 : 2);
            Check.due("look(4)", y.look(4), 0);
            Check.due("step(0, 0)", y.step(0, 0), NONE);
            Check.due("closed(NONE)", y.closed(NONE), NONE);
            Check.due("tried(0) stays", y.tried(0), 1);
        }
    }

    // ---- Promise 23 and ANSWERS

    private static String answers(OppositePairs x) {
        StringBuilder all = new StringBuilder();
        for (int k = 0; k < x.answer(NONE, 0); k++) {
            all.append(k == 0 ? "" : " ");
            for (int what = 0; what < 4; what++) {
                all.append(what == 0 ? "" : ",").append(x.answer(k, what));
            }
        }
        return all.toString();
    }

    /** "8 at most, asked latest last"; "what comes as a ninth makes the first go" */
    private static void eightAnswers() {
        OppositePairs x = Check.told("a. -a|b. -b.");
        StringBuilder want = new StringBuilder();
        for (int n = 0; n < 8; n++) {
            Check.due("how many", x.answer(NONE, 0), n);
            x.solve(n % 3, n, 7 - n);
            int found = n < (n % 3 == 1 ? 1 : 2) ? 0 : 1;
            want.append(n == 0 ? "" : " ").append(n % 3 + "," + n + "," + (7 - n) + "," + found);
            Check.due("ANSWERS", answers(x), want.toString());
        }
        Check.due("how many", x.answer(NONE, 0), 8);
        Check.due("the ninth", x.solve(2, 20, 0), 1);
        Check.due("ANSWERS", answers(x), want.substring(want.indexOf(" ") + 1) + " 2,20,0,1");
        Check.due("how many", x.answer(NONE, 0), 8);
        // The first is gone: it is none that is there, and makes the next one go.
        Check.due("the tenth", x.solve(0, 0, 7), 0);
        Check.due("look(8)", x.look(8), 0);
        Check.due("the first", x.answer(0, 1), 2);
        Check.due("the last", x.answer(7, 1), 0);
    }

    /** "an asking of what is there puts it last"; look(8): "askings of solve() that were among ANSWERS" */
    private static void askedAgain() {
        for (int count = 1; count <= 8; count++) {
            for (int again = 0; again < count; again++) {
                OppositePairs x = Check.told("a. -a.");
                StringBuilder want = new StringBuilder();
                for (int n = 0; n < count; n++) {
                    x.solve(0, n + 1, 0);
                    want.append(n == again ? "" : "0," + (n + 1) + ",0,1 ");
                }
                Check.due("solve", x.solve(0, again + 1, 0), 1);
                Check.due("ANSWERS", answers(x), want + "0," + (again + 1) + ",0,1");
                Check.due("how many", x.answer(NONE, 0), count);
                Check.due("look(8)", x.look(8), 1);
            }
        }
        // All three must be the same.
        OppositePairs y = Check.told("a. -a.");
        y.solve(0, 1, 0);
        y.solve(1, 1, 0);
        y.solve(0, 2, 0);
        y.solve(0, 1, 1);
        Check.due("look(8)", y.look(8), 0);
        Check.due("ANSWERS", answers(y), "0,1,0,1 1,1,0,1 0,2,0,1 0,1,1,1");
        y.solve(0, 1, 1);
        y.solve(0, 1, 1);
        Check.due("look(8)", y.look(8), 2);
        // What was GIVEN UP, and what found none, is there like the others; THE PROOF is the latest one's.
        OppositePairs z = Check.told(fails(8, 30));
        z.solve(0, 5, 0);
        z.solve(0, 0, 0);
        Check.due("solve", z.solve(0, 5, 0), -2);
        Check.due("solve", z.solve(0, 0, 0), 0);
        Check.due("look(8)", z.look(8), 2);
        Check.due("ANSWERS", answers(z), "0,5,0,-2 0,0,0,0");
        OppositePairs v = Check.told("a. -a.");
        v.solve(0, 1, 0);
        v.solve(0, 0, 0);
        Check.due("no PROOF", v.look(4), 0);
        Check.due("solve", v.solve(0, 1, 0), 1);
        Check.due("a PROOF", v.look(4), 1);
        tried(v, 1, 1, 0, 1);
    }

    /** "ANSWERS: of solve() alone" */
    private static void answersOfSolveAlone() {
        OppositePairs x = Check.told("a. -a.");
        x.deepen(0, 2, 0);
        x.any(2, 0);
        Check.due("how many", x.answer(NONE, 0), 0);
        x.solve(0, 2, 0);
        x.deepen(0, 2, 0);
        x.any(2, 0);
        Check.due("ANSWERS", answers(x), "0,2,0,1");
        Check.due("look(8)", x.look(8), 0);
        // Nor what can't be.
        x.solve(2, 2, 0);
        x.solve(0, 21, 0);
        x.solve(0, 2, 8);
        Check.due("ANSWERS", answers(x), "0,2,0,1");
    }

    /** "They are all gone when CLAUSES come or go." */
    private static void answersGone() {
        for (int way = 0; way < 5; way++) {
            OppositePairs x = Check.told("a. -a. b.");
            for (int n = 0; n < 9; n++) {
                x.solve(0, n, 0);
            }
            x.solve(0, 8, 0);
            int told = way == 0 ? Check.tell(x, "a. -a. b.") : way == 1 ? x.clauses() : way == 2 ? x.drop(2) ? 1 : 0
                    : way == 3 ? Check.tell(x, "a") : x.drop(3) ? 1 : 0;
            Check.due("CLAUSES", told, new int[] {3, 0, 1, NONE, 0}[way]);
            Check.due("how many", x.answer(NONE, 0), way < 3 ? 0 : 8);
            Check.due("answer(0, 0)", x.answer(0, 0), way < 3 ? NONE : 0);
            Check.due("look(8) stays", x.look(8), 1);
        }
        // What was asked of other CLAUSES is not there.
        OppositePairs y = Check.told("a. -a. b.");
        y.solve(0, 1, 0);
        y.drop(2);
        y.solve(0, 1, 0);
        Check.due("look(8)", y.look(8), 0);
        Check.due("ANSWERS", answers(y), "0,1,0,1");
    }

    /** answer: "NONE if there is none such, or another what." */
    private static void answerRefused() {
        OppositePairs x = TapeEdgesTest.rich();
        Check.due("ANSWERS", answers(x), "1,0,0,0 0,2,0,1");
        int[][] wrong = {{2, 0}, {-2, 0}, {8, 0}, {MIN, 0}, {MAX, 0}, {0, -1}, {0, 4}, {1, MIN}, {1, MAX}, {7, 3}};
        for (int[] w : wrong) {
            Eye.refused("answer(" + w[0] + ", " + w[1] + ")", TapeEdgesTest::rich, y -> y.answer(w[0], w[1]), NONE);
        }
        Eye.refused("answer(NONE, 0)", TapeEdgesTest::rich, y -> y.answer(NONE, 0), 2);
        Check.due("none at all", new OppositePairs().answer(0, 0), NONE);
        Check.due("none at all", new OppositePairs().answer(NONE, 0), 0);
    }
}
